section
-- ===== PART A: goes FIRST, ahead of the names: the tables' words, and 'selects' of the private methods out of them =====
/-- a private method of a class that the tables say can be made, by its rows of tables_1 -/
def lw_okq (q : MethodName × Nat) : Prop := (q.1.cls ≠ "java/lang/invoke/MethodHandle" ∧ q.1.cls ≠ "java/lang/invoke/VarHandle") ∧ Cond.instantiable q.1.cls q.2 ∈ tables_1 ∧ Cond.privateMethod q.1 ∈ tables_1 ∧ Cond.instanceMethod q.1 ∈ tables_1
theorem lw_p0 : lw_okq (⟨"java/lang/Throwable", "fillInStackTrace", "(I)Ljava/lang/Throwable;"⟩, 6) := ⟨⟨by decide +kernel, by decide +kernel⟩, List.mem_of_getElem? (i := 223) (by decide +kernel), List.mem_of_getElem? (i := 221) (by decide +kernel), List.mem_of_getElem? (i := 222) (by decide +kernel)⟩
theorem lw_p1 : lw_okq (⟨"java/util/ArrayList", "add", "(Ljava/lang/Object;[Ljava/lang/Object;I)V"⟩, 3) := ⟨⟨by decide +kernel, by decide +kernel⟩, List.mem_of_getElem? (i := 43) (by decide +kernel), List.mem_of_getElem? (i := 309) (by decide +kernel), List.mem_of_getElem? (i := 310) (by decide +kernel)⟩
theorem lw_p2 : lw_okq (⟨"java/util/ArrayList", "grow", "()[Ljava/lang/Object;"⟩, 3) := ⟨⟨by decide +kernel, by decide +kernel⟩, List.mem_of_getElem? (i := 43) (by decide +kernel), List.mem_of_getElem? (i := 313) (by decide +kernel), List.mem_of_getElem? (i := 314) (by decide +kernel)⟩
theorem lw_p3 : lw_okq (⟨"java/util/ArrayList", "grow", "(I)[Ljava/lang/Object;"⟩, 3) := ⟨⟨by decide +kernel, by decide +kernel⟩, List.mem_of_getElem? (i := 43) (by decide +kernel), List.mem_of_getElem? (i := 317) (by decide +kernel), List.mem_of_getElem? (i := 318) (by decide +kernel)⟩
theorem lw_p4 : lw_okq (⟨"RentStream", "flatAt", "(I)LRentStream$Flat;"⟩, 10) := ⟨⟨by decide +kernel, by decide +kernel⟩, List.mem_of_getElem? (i := 35) (by decide +kernel), List.mem_of_getElem? (i := 377) (by decide +kernel), List.mem_of_getElem? (i := 378) (by decide +kernel)⟩
theorem lw_p5 : lw_okq (⟨"RentStream", "isLetOn", "(LRentStream$Flat;)Z"⟩, 10) := ⟨⟨by decide +kernel, by decide +kernel⟩, List.mem_of_getElem? (i := 35) (by decide +kernel), List.mem_of_getElem? (i := 413) (by decide +kernel), List.mem_of_getElem? (i := 414) (by decide +kernel)⟩
theorem lw_p6 : lw_okq (⟨"RentStream", "monthNow", "()I"⟩, 10) := ⟨⟨by decide +kernel, by decide +kernel⟩, List.mem_of_getElem? (i := 35) (by decide +kernel), List.mem_of_getElem? (i := 420) (by decide +kernel), List.mem_of_getElem? (i := 421) (by decide +kernel)⟩
theorem lw_p7 : lw_okq (⟨"RentStream", "leaseAt", "(I)LRentStream$Lease;"⟩, 10) := ⟨⟨by decide +kernel, by decide +kernel⟩, List.mem_of_getElem? (i := 35) (by decide +kernel), List.mem_of_getElem? (i := 519) (by decide +kernel), List.mem_of_getElem? (i := 520) (by decide +kernel)⟩
theorem lw_p8 : lw_okq (⟨"RentStream", "needMonth", "(I)V"⟩, 10) := ⟨⟨by decide +kernel, by decide +kernel⟩, List.mem_of_getElem? (i := 35) (by decide +kernel), List.mem_of_getElem? (i := 613) (by decide +kernel), List.mem_of_getElem? (i := 614) (by decide +kernel)⟩
theorem lw_p9 : lw_okq (⟨"RentStream", "postToTenant", "(LRentStream$Lease;J)V"⟩, 10) := ⟨⟨by decide +kernel, by decide +kernel⟩, List.mem_of_getElem? (i := 35) (by decide +kernel), List.mem_of_getElem? (i := 636) (by decide +kernel), List.mem_of_getElem? (i := 637) (by decide +kernel)⟩
theorem lw_p10 : lw_okq (⟨"RentStream", "postToDesk", "(LRentStream$Lease;J)V"⟩, 10) := ⟨⟨by decide +kernel, by decide +kernel⟩, List.mem_of_getElem? (i := 35) (by decide +kernel), List.mem_of_getElem? (i := 640) (by decide +kernel), List.mem_of_getElem? (i := 641) (by decide +kernel)⟩
theorem lw_p11 : lw_okq (⟨"RentStream", "endDay", "()V"⟩, 10) := ⟨⟨by decide +kernel, by decide +kernel⟩, List.mem_of_getElem? (i := 35) (by decide +kernel), List.mem_of_getElem? (i := 673) (by decide +kernel), List.mem_of_getElem? (i := 674) (by decide +kernel)⟩
theorem lw_p12 : lw_okq (⟨"RentStream$Repair", "clock", "()I"⟩, 5) := ⟨⟨by decide +kernel, by decide +kernel⟩, List.mem_of_getElem? (i := 573) (by decide +kernel), List.mem_of_getElem? (i := 681) (by decide +kernel), List.mem_of_getElem? (i := 682) (by decide +kernel)⟩
theorem lw_p13 : lw_okq (⟨"RentStream$Repair", "pointsADay", "()I"⟩, 5) := ⟨⟨by decide +kernel, by decide +kernel⟩, List.mem_of_getElem? (i := 573) (by decide +kernel), List.mem_of_getElem? (i := 686) (by decide +kernel), List.mem_of_getElem? (i := 687) (by decide +kernel)⟩
theorem lw_p14 : lw_okq (⟨"RentStream", "endMonth", "(I)V"⟩, 10) := ⟨⟨by decide +kernel, by decide +kernel⟩, List.mem_of_getElem? (i := 35) (by decide +kernel), List.mem_of_getElem? (i := 691) (by decide +kernel), List.mem_of_getElem? (i := 692) (by decide +kernel)⟩
theorem lw_p15 : lw_okq (⟨"RentStream$Flat", "guessedUse", "(I)I"⟩, 6) := ⟨⟨by decide +kernel, by decide +kernel⟩, List.mem_of_getElem? (i := 272) (by decide +kernel), List.mem_of_getElem? (i := 700) (by decide +kernel), List.mem_of_getElem? (i := 701) (by decide +kernel)⟩
def lw_privs_1 : List (MethodName × Nat) := [(⟨"java/lang/Throwable", "fillInStackTrace", "(I)Ljava/lang/Throwable;"⟩, 6), (⟨"java/util/ArrayList", "add", "(Ljava/lang/Object;[Ljava/lang/Object;I)V"⟩, 3), (⟨"java/util/ArrayList", "grow", "()[Ljava/lang/Object;"⟩, 3), (⟨"java/util/ArrayList", "grow", "(I)[Ljava/lang/Object;"⟩, 3), (⟨"RentStream", "flatAt", "(I)LRentStream$Flat;"⟩, 10), (⟨"RentStream", "isLetOn", "(LRentStream$Flat;)Z"⟩, 10), (⟨"RentStream", "monthNow", "()I"⟩, 10), (⟨"RentStream", "leaseAt", "(I)LRentStream$Lease;"⟩, 10), (⟨"RentStream", "needMonth", "(I)V"⟩, 10), (⟨"RentStream", "postToTenant", "(LRentStream$Lease;J)V"⟩, 10), (⟨"RentStream", "postToDesk", "(LRentStream$Lease;J)V"⟩, 10), (⟨"RentStream", "endDay", "()V"⟩, 10), (⟨"RentStream$Repair", "clock", "()I"⟩, 5), (⟨"RentStream$Repair", "pointsADay", "()I"⟩, 5), (⟨"RentStream", "endMonth", "(I)V"⟩, 10), (⟨"RentStream$Flat", "guessedUse", "(I)I"⟩, 6)]
theorem lw_r1 : ∀ q ∈ lw_privs_1, lw_okq q := List.forall_mem_cons.mpr ⟨lw_p0, List.forall_mem_cons.mpr ⟨lw_p1, List.forall_mem_cons.mpr ⟨lw_p2, List.forall_mem_cons.mpr ⟨lw_p3, List.forall_mem_cons.mpr ⟨lw_p4, List.forall_mem_cons.mpr ⟨lw_p5, List.forall_mem_cons.mpr ⟨lw_p6, List.forall_mem_cons.mpr ⟨lw_p7, List.forall_mem_cons.mpr ⟨lw_p8, List.forall_mem_cons.mpr ⟨lw_p9, List.forall_mem_cons.mpr ⟨lw_p10, List.forall_mem_cons.mpr ⟨lw_p11, List.forall_mem_cons.mpr ⟨lw_p12, List.forall_mem_cons.mpr ⟨lw_p13, List.forall_mem_cons.mpr ⟨lw_p14, List.forall_mem_cons.mpr ⟨lw_p15, fun _ h => absurd h List.not_mem_nil⟩⟩⟩⟩⟩⟩⟩⟩⟩⟩⟩⟩⟩⟩⟩⟩
theorem lw_p16 : lw_okq (⟨"RentStream", "shareHeat", "(I)V"⟩, 10) := ⟨⟨by decide +kernel, by decide +kernel⟩, List.mem_of_getElem? (i := 35) (by decide +kernel), List.mem_of_getElem? (i := 706) (by decide +kernel), List.mem_of_getElem? (i := 707) (by decide +kernel)⟩
theorem lw_p17 : lw_okq (⟨"RentStream", "usesOfAll", "(I)J"⟩, 10) := ⟨⟨by decide +kernel, by decide +kernel⟩, List.mem_of_getElem? (i := 35) (by decide +kernel), List.mem_of_getElem? (i := 710) (by decide +kernel), List.mem_of_getElem? (i := 711) (by decide +kernel)⟩
theorem lw_p18 : lw_okq (⟨"RentStream", "shareByWeights", "(I)V"⟩, 10) := ⟨⟨by decide +kernel, by decide +kernel⟩, List.mem_of_getElem? (i := 35) (by decide +kernel), List.mem_of_getElem? (i := 723) (by decide +kernel), List.mem_of_getElem? (i := 724) (by decide +kernel)⟩
theorem lw_p19 : lw_okq (⟨"RentStream", "giveOneMore", "()V"⟩, 10) := ⟨⟨by decide +kernel, by decide +kernel⟩, List.mem_of_getElem? (i := 35) (by decide +kernel), List.mem_of_getElem? (i := 731) (by decide +kernel), List.mem_of_getElem? (i := 732) (by decide +kernel)⟩
theorem lw_p20 : lw_okq (⟨"RentStream", "makeBill", "(LRentStream$Lease;I)V"⟩, 10) := ⟨⟨by decide +kernel, by decide +kernel⟩, List.mem_of_getElem? (i := 35) (by decide +kernel), List.mem_of_getElem? (i := 754) (by decide +kernel), List.mem_of_getElem? (i := 755) (by decide +kernel)⟩
theorem lw_p21 : lw_okq (⟨"RentStream", "settle", "(LRentStream$Lease;ILRentStream$Bill;)V"⟩, 10) := ⟨⟨by decide +kernel, by decide +kernel⟩, List.mem_of_getElem? (i := 35) (by decide +kernel), List.mem_of_getElem? (i := 758) (by decide +kernel), List.mem_of_getElem? (i := 759) (by decide +kernel)⟩
theorem lw_p22 : lw_okq (⟨"RentStream", "beginMonth", "(I)V"⟩, 10) := ⟨⟨by decide +kernel, by decide +kernel⟩, List.mem_of_getElem? (i := 35) (by decide +kernel), List.mem_of_getElem? (i := 783) (by decide +kernel), List.mem_of_getElem? (i := 784) (by decide +kernel)⟩
theorem lw_p23 : lw_okq (⟨"RentStream", "payAhead", "(LRentStream$Lease;I)V"⟩, 10) := ⟨⟨by decide +kernel, by decide +kernel⟩, List.mem_of_getElem? (i := 35) (by decide +kernel), List.mem_of_getElem? (i := 787) (by decide +kernel), List.mem_of_getElem? (i := 788) (by decide +kernel)⟩
theorem lw_p24 : lw_okq (⟨"RentStreamModel", "holds", "(I)Z"⟩, 40) := ⟨⟨by decide +kernel, by decide +kernel⟩, List.mem_of_getElem? (i := 1161) (by decide +kernel), List.mem_of_getElem? (i := 1302) (by decide +kernel), List.mem_of_getElem? (i := 1303) (by decide +kernel)⟩
theorem lw_p25 : lw_okq (⟨"RentStreamModel", "month", "()I"⟩, 40) := ⟨⟨by decide +kernel, by decide +kernel⟩, List.mem_of_getElem? (i := 1161) (by decide +kernel), List.mem_of_getElem? (i := 1306) (by decide +kernel), List.mem_of_getElem? (i := 1307) (by decide +kernel)⟩
theorem lw_p26 : lw_okq (⟨"RentStreamModel", "isFlat", "(I)Z"⟩, 40) := ⟨⟨by decide +kernel, by decide +kernel⟩, List.mem_of_getElem? (i := 1161) (by decide +kernel), List.mem_of_getElem? (i := 1314) (by decide +kernel), List.mem_of_getElem? (i := 1315) (by decide +kernel)⟩
theorem lw_p27 : lw_okq (⟨"RentStreamModel", "isLet", "(I)Z"⟩, 40) := ⟨⟨by decide +kernel, by decide +kernel⟩, List.mem_of_getElem? (i := 1161) (by decide +kernel), List.mem_of_getElem? (i := 1319) (by decide +kernel), List.mem_of_getElem? (i := 1320) (by decide +kernel)⟩
theorem lw_p28 : lw_okq (⟨"RentStreamModel", "runs", "(II)Z"⟩, 40) := ⟨⟨by decide +kernel, by decide +kernel⟩, List.mem_of_getElem? (i := 1161) (by decide +kernel), List.mem_of_getElem? (i := 1323) (by decide +kernel), List.mem_of_getElem? (i := 1324) (by decide +kernel)⟩
theorem lw_p29 : lw_okq (⟨"RentStreamModel", "isLease", "(I)Z"⟩, 40) := ⟨⟨by decide +kernel, by decide +kernel⟩, List.mem_of_getElem? (i := 1161) (by decide +kernel), List.mem_of_getElem? (i := 1331) (by decide +kernel), List.mem_of_getElem? (i := 1332) (by decide +kernel)⟩
theorem lw_p30 : lw_okq (⟨"RentStreamModel", "isMonth", "(I)Z"⟩, 40) := ⟨⟨by decide +kernel, by decide +kernel⟩, List.mem_of_getElem? (i := 1161) (by decide +kernel), List.mem_of_getElem? (i := 1361) (by decide +kernel), List.mem_of_getElem? (i := 1362) (by decide +kernel)⟩
theorem lw_p31 : lw_okq (⟨"RentStreamModel", "incomeIn", "(II)I"⟩, 40) := ⟨⟨by decide +kernel, by decide +kernel⟩, List.mem_of_getElem? (i := 1161) (by decide +kernel), List.mem_of_getElem? (i := 1368) (by decide +kernel), List.mem_of_getElem? (i := 1369) (by decide +kernel)⟩
def lw_privs_2 : List (MethodName × Nat) := [(⟨"RentStream", "shareHeat", "(I)V"⟩, 10), (⟨"RentStream", "usesOfAll", "(I)J"⟩, 10), (⟨"RentStream", "shareByWeights", "(I)V"⟩, 10), (⟨"RentStream", "giveOneMore", "()V"⟩, 10), (⟨"RentStream", "makeBill", "(LRentStream$Lease;I)V"⟩, 10), (⟨"RentStream", "settle", "(LRentStream$Lease;ILRentStream$Bill;)V"⟩, 10), (⟨"RentStream", "beginMonth", "(I)V"⟩, 10), (⟨"RentStream", "payAhead", "(LRentStream$Lease;I)V"⟩, 10), (⟨"RentStreamModel", "holds", "(I)Z"⟩, 40), (⟨"RentStreamModel", "month", "()I"⟩, 40), (⟨"RentStreamModel", "isFlat", "(I)Z"⟩, 40), (⟨"RentStreamModel", "isLet", "(I)Z"⟩, 40), (⟨"RentStreamModel", "runs", "(II)Z"⟩, 40), (⟨"RentStreamModel", "isLease", "(I)Z"⟩, 40), (⟨"RentStreamModel", "isMonth", "(I)Z"⟩, 40), (⟨"RentStreamModel", "incomeIn", "(II)I"⟩, 40)]
theorem lw_r2 : ∀ q ∈ lw_privs_2, lw_okq q := List.forall_mem_cons.mpr ⟨lw_p16, List.forall_mem_cons.mpr ⟨lw_p17, List.forall_mem_cons.mpr ⟨lw_p18, List.forall_mem_cons.mpr ⟨lw_p19, List.forall_mem_cons.mpr ⟨lw_p20, List.forall_mem_cons.mpr ⟨lw_p21, List.forall_mem_cons.mpr ⟨lw_p22, List.forall_mem_cons.mpr ⟨lw_p23, List.forall_mem_cons.mpr ⟨lw_p24, List.forall_mem_cons.mpr ⟨lw_p25, List.forall_mem_cons.mpr ⟨lw_p26, List.forall_mem_cons.mpr ⟨lw_p27, List.forall_mem_cons.mpr ⟨lw_p28, List.forall_mem_cons.mpr ⟨lw_p29, List.forall_mem_cons.mpr ⟨lw_p30, List.forall_mem_cons.mpr ⟨lw_p31, fun _ h => absurd h List.not_mem_nil⟩⟩⟩⟩⟩⟩⟩⟩⟩⟩⟩⟩⟩⟩⟩⟩
theorem lw_p32 : lw_okq (⟨"RentStreamModel", "wears", "()V"⟩, 40) := ⟨⟨by decide +kernel, by decide +kernel⟩, List.mem_of_getElem? (i := 1161) (by decide +kernel), List.mem_of_getElem? (i := 1387) (by decide +kernel), List.mem_of_getElem? (i := 1388) (by decide +kernel)⟩
theorem lw_p33 : lw_okq (⟨"RentStreamModel", "ends", "(I)V"⟩, 40) := ⟨⟨by decide +kernel, by decide +kernel⟩, List.mem_of_getElem? (i := 1161) (by decide +kernel), List.mem_of_getElem? (i := 1391) (by decide +kernel), List.mem_of_getElem? (i := 1392) (by decide +kernel)⟩
theorem lw_p34 : lw_okq (⟨"RentStreamModel", "findsUse", "(II)V"⟩, 40) := ⟨⟨by decide +kernel, by decide +kernel⟩, List.mem_of_getElem? (i := 1161) (by decide +kernel), List.mem_of_getElem? (i := 1395) (by decide +kernel), List.mem_of_getElem? (i := 1396) (by decide +kernel)⟩
theorem lw_p35 : lw_okq (⟨"RentStreamModel", "sharesHeat", "(I)V"⟩, 40) := ⟨⟨by decide +kernel, by decide +kernel⟩, List.mem_of_getElem? (i := 1161) (by decide +kernel), List.mem_of_getElem? (i := 1399) (by decide +kernel), List.mem_of_getElem? (i := 1400) (by decide +kernel)⟩
theorem lw_p36 : lw_okq (⟨"RentStreamModel", "weighs", "(IZ)J"⟩, 40) := ⟨⟨by decide +kernel, by decide +kernel⟩, List.mem_of_getElem? (i := 1161) (by decide +kernel), List.mem_of_getElem? (i := 1403) (by decide +kernel), List.mem_of_getElem? (i := 1404) (by decide +kernel)⟩
theorem lw_p37 : lw_okq (⟨"RentStreamModel", "sharesBy", "(J)V"⟩, 40) := ⟨⟨by decide +kernel, by decide +kernel⟩, List.mem_of_getElem? (i := 1161) (by decide +kernel), List.mem_of_getElem? (i := 1409) (by decide +kernel), List.mem_of_getElem? (i := 1410) (by decide +kernel)⟩
theorem lw_p38 : lw_okq (⟨"RentStreamModel", "looksAtPlan", "(I)V"⟩, 40) := ⟨⟨by decide +kernel, by decide +kernel⟩, List.mem_of_getElem? (i := 1161) (by decide +kernel), List.mem_of_getElem? (i := 1414) (by decide +kernel), List.mem_of_getElem? (i := 1415) (by decide +kernel)⟩
theorem lw_p39 : lw_okq (⟨"RentStreamModel", "bills", "(II)V"⟩, 40) := ⟨⟨by decide +kernel, by decide +kernel⟩, List.mem_of_getElem? (i := 1161) (by decide +kernel), List.mem_of_getElem? (i := 1418) (by decide +kernel), List.mem_of_getElem? (i := 1419) (by decide +kernel)⟩
theorem lw_p40 : lw_okq (⟨"RentStreamModel", "rentIn", "(II)I"⟩, 40) := ⟨⟨by decide +kernel, by decide +kernel⟩, List.mem_of_getElem? (i := 1161) (by decide +kernel), List.mem_of_getElem? (i := 1422) (by decide +kernel), List.mem_of_getElem? (i := 1423) (by decide +kernel)⟩
theorem lw_p41 : lw_okq (⟨"RentStreamModel", "begins", "(I)V"⟩, 40) := ⟨⟨by decide +kernel, by decide +kernel⟩, List.mem_of_getElem? (i := 1161) (by decide +kernel), List.mem_of_getElem? (i := 1427) (by decide +kernel), List.mem_of_getElem? (i := 1428) (by decide +kernel)⟩
theorem lw_p42 : lw_okq (⟨"RentStreamModel", "adds", "(I)V"⟩, 40) := ⟨⟨by decide +kernel, by decide +kernel⟩, List.mem_of_getElem? (i := 1161) (by decide +kernel), List.mem_of_getElem? (i := 1456) (by decide +kernel), List.mem_of_getElem? (i := 1457) (by decide +kernel)⟩
theorem lw_p43 : lw_okq (⟨"RentStreamModel", "addsNumber", "(I)V"⟩, 40) := ⟨⟨by decide +kernel, by decide +kernel⟩, List.mem_of_getElem? (i := 1161) (by decide +kernel), List.mem_of_getElem? (i := 1460) (by decide +kernel), List.mem_of_getElem? (i := 1461) (by decide +kernel)⟩
theorem lw_p44 : lw_okq (⟨"RentStreamModel", "addsAmount", "(II)V"⟩, 40) := ⟨⟨by decide +kernel, by decide +kernel⟩, List.mem_of_getElem? (i := 1161) (by decide +kernel), List.mem_of_getElem? (i := 1467) (by decide +kernel), List.mem_of_getElem? (i := 1468) (by decide +kernel)⟩
def lw_privs_3 : List (MethodName × Nat) := [(⟨"RentStreamModel", "wears", "()V"⟩, 40), (⟨"RentStreamModel", "ends", "(I)V"⟩, 40), (⟨"RentStreamModel", "findsUse", "(II)V"⟩, 40), (⟨"RentStreamModel", "sharesHeat", "(I)V"⟩, 40), (⟨"RentStreamModel", "weighs", "(IZ)J"⟩, 40), (⟨"RentStreamModel", "sharesBy", "(J)V"⟩, 40), (⟨"RentStreamModel", "looksAtPlan", "(I)V"⟩, 40), (⟨"RentStreamModel", "bills", "(II)V"⟩, 40), (⟨"RentStreamModel", "rentIn", "(II)I"⟩, 40), (⟨"RentStreamModel", "begins", "(I)V"⟩, 40), (⟨"RentStreamModel", "adds", "(I)V"⟩, 40), (⟨"RentStreamModel", "addsNumber", "(I)V"⟩, 40), (⟨"RentStreamModel", "addsAmount", "(II)V"⟩, 40)]
theorem lw_r3 : ∀ q ∈ lw_privs_3, lw_okq q := List.forall_mem_cons.mpr ⟨lw_p32, List.forall_mem_cons.mpr ⟨lw_p33, List.forall_mem_cons.mpr ⟨lw_p34, List.forall_mem_cons.mpr ⟨lw_p35, List.forall_mem_cons.mpr ⟨lw_p36, List.forall_mem_cons.mpr ⟨lw_p37, List.forall_mem_cons.mpr ⟨lw_p38, List.forall_mem_cons.mpr ⟨lw_p39, List.forall_mem_cons.mpr ⟨lw_p40, List.forall_mem_cons.mpr ⟨lw_p41, List.forall_mem_cons.mpr ⟨lw_p42, List.forall_mem_cons.mpr ⟨lw_p43, List.forall_mem_cons.mpr ⟨lw_p44, fun _ h => absurd h List.not_mem_nil⟩⟩⟩⟩⟩⟩⟩⟩⟩⟩⟩⟩⟩
def lw_privs : List (MethodName × Nat) := lw_privs_1 ++ (lw_privs_2 ++ (lw_privs_3))
def lw_tbl : List Cond := k2_sels lw_privs ++ tables_1
theorem lw_privs_ok : ∀ q ∈ lw_privs, lw_okq q := by
  show ∀ q ∈ lw_privs_1 ++ (lw_privs_2 ++ (lw_privs_3)), lw_okq q
  exact List.forall_mem_append.mpr ⟨lw_r1, List.forall_mem_append.mpr ⟨lw_r2, lw_r3⟩⟩

/-! ===== BEGIN words of one list among another's, by their places ===== -/
theorem goodIn_r {big : List Cond} (ws : List Cond) (ps : List Nat) (hp : ws = ps.filterMap (fun i => big[i]?)) (h : ws.all goodWord = true) : GoodIn big ws := by
  intro w hw
  have h1 := List.all_eq_true.mp h w hw
  rw [hp] at hw
  obtain ⟨i, -, hi⟩ := List.mem_filterMap.mp hw
  have hm : w ∈ big := by first | exact List.mem_of_getElem? hi | exact List.getElem?_mem hi
  exact ⟨hm, good_of_word h1⟩
theorem goodIn_app {big a b : List Cond} (ha : GoodIn big a) (hb : GoodIn big b) : GoodIn big (a ++ b) := fun w h => (List.mem_append.mp h).elim (ha w) (hb w)
theorem goodIn_ca {big a b : List Cond} {c : Cond} (ha : GoodIn big (c :: a)) (hb : GoodIn big b) : GoodIn big (c :: (a ++ b)) := fun w h => (List.mem_cons.mp h).elim (fun e => ha w (List.mem_cons.mpr (Or.inl e))) (fun h => (List.mem_append.mp h).elim (fun h => ha w (List.mem_cons.mpr (Or.inr h))) (hb w))
theorem goodIn_sub {big ws : List Cond} (hm : ∀ w ∈ ws, w ∈ big) (h : ws.all goodWord = true) : GoodIn big ws := fun w hw => ⟨hm w hw, good_of_word (List.all_eq_true.mp h w hw)⟩
/-! ===== END ===== -/

/-! ===== BEGIN exceptions that leave a method, and their catching by the caller (launches without stack traces) ===== -/
section VXA
/-! The laws vx_back, vx_callV, vx_callS, vx_callSW, vx_throw0, vx_throwS follow proofs of the library, with one case more: JvmDerived/Free/Laws.lean (Back.of_free), Shelf42/LK1.lean (callV, callS), Shelf/KitTraced.lean (throwNew0V, throwNewS). -/
/-- where a method has thrown q: the class by its name, the cell, what was written, the world -/
def vx_T (XC : String → State → State → Prop) (st : State) (q : Addr) (t : State) (mc ms : Nat) (free : Addr → Prop) : Prop :=
  ∃ (E : String) (ce : Cell) (L : List Loc), XC E st t ∧ t.heap[q]? = some ce ∧ ce.vm = .none ∧ st.vm.findClass E = some ce.cls ∧ st.WarmedH t.vm ∧ st.sameButNew ({ t with vm := st.vm } : State) L mc ms ∧ ∀ z ∈ L, free z.base
def vx_Q (Qc : Array Value → State → Outcome → State → Prop) (XC : String → State → State → Prop) (mc ms : Nat) (free : Addr → Prop) : Array Value → State → Outcome → State → Prop := fun a st o t =>
  (Qc a st o t ∧ ∃ L, FrameEnd st o t L mc ms ∧ ∀ q ∈ L, free q.base) ∨ ∃ q, o = .threw q ∧ vx_T XC st q t mc ms free
/-- a callee that returns or throws -/
def vx_Met (l : Launch) (y : MethodName) (ws : List Cond) (rm : Room) (Pc : Array Value → State → Prop) (Qc : Array Value → State → Outcome → State → Prop) (XC : String → State → State → Prop) (mc ms : Nat) (free : Addr → Prop) : Prop :=
  MetFree l y (headSpec ws rm) Pc (fun _ _ _ _ _ => True) (vx_Q Qc XC mc ms free)
def vx_Post (XC : String → State → State → Prop) (mc ms : Nat) (free : Addr → Prop) : Pt → Array Value → Addr → Pt → Prop := fun A a q B =>
  ∃ (g : JFrame) (mk : MethodId) (t : State) (L : List Loc) (E : String) (ce : Cell), B.U.heap = t.heap ∧ B.U.vm = t.vm ∧ XC E (A.U.calling g mk a) t ∧ t.heap[q]? = some ce ∧ ce.vm = .none ∧ A.U.vm.findClass E = some ce.cls ∧ B.locs = A.locs ++ L ∧ (∀ z ∈ L, free z.base) ∧ B.cells = A.cells + mc ∧ B.slots = A.slots + ms
def vx_Back (l : Launch) (R : Room) (p : Program) (e : Env) (below : List Frame) (s : State) (sargs : Array Value) (y : MethodName) (len W9 : Nat)
    (Pre : Pt → Array Value → Prop) (Post : Pt → Array Value → Option Value → Pt → Prop) (PostX : Pt → Array Value → Addr → Pt → Prop) : Prop :=
  ∀ (m : MethodId) (meth : Method) (c : Code) (A : Pt) (g : JFrame) (ig : Instr) (mk : MethodId) (a : Array Value),
    Stand p l e R s m sargs below meth c A.U A.locs A.cells A.slots → g.method = m → g.locals.size = c.maxLocals → decode c.code g.pc = .ok (ig, len) →
    2 * g.monitorRoom + (g.stack.map fun v => v.category).sum ≤ W9 → A.U.methodNamed? y = some mk → Pre A a →
    (∃ (v : Option Value) (B : Pt), Stand p l e R s m sargs below meth c B.U B.locs B.cells B.slots ∧ Post A a v B ∧
      Steps p.tables e below (doInvoke e (A.U.setTop g) [] mk a).1 (B.U.setTop { g with pc := g.pc + len, stack := v.toList ++ g.stack })) ∨
    (∃ (q : Addr) (B : Pt), Stand p l e R s m sargs below meth c B.U B.locs B.cells B.slots ∧ PostX A a q B ∧
      Steps p.tables e below (doInvoke e (A.U.setTop g) [] mk a).1 ((B.U.setTop g).pushFrame (.throwing q)))
section Payer
variable {l : Launch} {R : Room} {p : Program} {e : Env} {below : List Frame} {s : State} {sargs : Array Value} {y : MethodName} {len W9 : Nat}
theorem vx_back {ws : List Cond} {rm : Room} {Pc : Array Value → State → Prop} {Qc : Array Value → State → Outcome → State → Prop} {XC : String → State → State → Prop} {mc ms : Nat} {free : Addr → Prop} {bytes : ByteArray} {maxL : Nat} {ret : Option FieldType}
    (hM : vx_Met l y ws rm Pc Qc XC mc ms free) (hblind : FrameBlind Pc) (hrc : rm.cells = mc) (hrs : rm.slots = ms)
    (hframes : rm.frames + 1 ≤ R.frames) (hlocals : W9 + (maxL + 11) + rm.locals ≤ R.locals)
    (hws : ∀ w ∈ ws, ∀ a' U, s.WarmedH U.vm → w.before a' U = true) (hcode : Cond.code y bytes maxL ret ∈ ws) (hinit : ∀ a' U, s.WarmedH U.vm → (Cond.initialized y.cls).before a' U = true) :
    vx_Back l R p e below s sargs y len W9 (PreOf R mc ms Pc) (PostOf Qc mc ms free) (vx_Post XC mc ms free) := by
  intro m meth c A g ig mk a X hg hsize hdg hW hn hp
  have h1 : (headSpec ws rm).pre.before a A.U = true := atoms_intro fun w hw => hws w hw _ _ X.warmed
  have h2 : (Cond.code y bytes maxL ret).before a A.U = true := hws _ hcode _ _ X.warmed
  have h3 : (Cond.initialized y.cls).before a A.U = true := hinit _ _ X.warmed
  have h4 : A.cells + (headSpec ws rm).room.cells ≤ R.cells := by rw [show (headSpec ws rm).room.cells = mc from hrc]; exact hp.1
  have h5 : A.slots + (headSpec ws rm).room.slots ≤ R.slots := by rw [show (headSpec ws rm).room.slots = ms from hrs]; exact hp.2.1
  have hPc : Pc a (A.U.calling g mk a) := hblind _ _ _ _ hp.2.2
  obtain ⟨U, Ls, c0, s0⟩ := A
  dsimp only [Pt.U, Pt.locs, Pt.cells, Pt.slots] at h1 h2 h3 h4 h5 X hn hPc ⊢
  obtain ⟨methY, cY, hmY, hcY, -, hlY, -, -, -, -⟩ := Cond.code_spec hn h2
  obtain ⟨kY, hkY, -⟩ := className_of_methodNamed hn
  have hinitY : kY.init = .initialized := Cond.initialized_spec (findClass_of_methodNamed hn) hkY h3
  have h : At U g.method c below := by rw [hg]; exact X.here
  have hlocals9 : W9 + (maxL + 11) + (headSpec ws rm).room.locals ≤ R.locals := hlocals
  have happ : (headSpec ws rm).appliesLoose y e.platform (U.calling g mk a) = true :=
    Spec.appliesLoose_calling (g := g) h hdg hn hkY hinitY
      (X.room_calling (g := g) (R' := (headSpec ws rm).room) hsize hmY hcY hframes (by rw [hlY]; omega) h4 h5) h1
  obtain ⟨mid, hmid⟩ := h.above
  have hfr : (U.setTop g).frames = (.java g :: mid) ++ below := by rw [State.frames_setTop' g h.top, hmid]; rfl
  obtain ⟨o, s₂, hsteps, -, hend, hq⟩ := Steps.callFree hM p X.admits X.cas X.clock (acts := []) hfr happ hPc trivial
  have hq' : vx_Q Qc XC mc ms free a (U.calling g mk a) o s₂ := hq
  rw [State.frames_setTop' g h.top] at hend
  obtain ⟨g₀, hg0⟩ := Option.isSome_iff_exists.mp h.top
  obtain ⟨r, hr⟩ := State.topJava?_eq_some.mp hg0
  have hr' : (({ U with heap := s₂.heap, slotsUsed := s₂.slotsUsed } : State).setVm s₂.vm).frames = .java g₀ :: r := hr
  rcases hq' with ⟨hqc, L, hfe, hL⟩ | ⟨q, rfl, E, ce, L, hx, hce, hcv, hcl, hW₂, hsm, hL⟩
  · obtain ⟨⟨v, rfl⟩, hW₂, e2, q2, q3, q4, q5, q6⟩ := id hfe
    have e3 : s₂ = ({ (U.calling g mk a).setFrames s₂.frames with heap := s₂.heap, slotsUsed := s₂.slotsUsed } : State).setVm s₂.vm := by
      have : s₂ = ({ s₂ with vm := (U.calling g mk a).vm } : State).setVm s₂.vm := rfl
      rw [e2] at this
      exact this
    obtain ⟨c₂, i₂, len₂, hc₂, hd₂, hf₂⟩ := hend
    have hW' : U.WarmedH s₂.vm := hW₂
    have hcc : c₂ = c := by
      have h1 : s₂.code? g.method = U.code? g.method := by
        rw [State.code?_eq, State.code?_eq, hW'.alike.method?]
      exact Option.some.inj (hc₂.symm.trans (h1.trans h.code))
    subst hcc
    have hlen : len₂ = len := by rw [hdg] at hd₂; cases hd₂; rfl
    subst hlen
    have hs₂ : s₂ = (({ U with heap := s₂.heap, slotsUsed := s₂.slotsUsed } : State).setVm s₂.vm).setTop { g with pc := g.pc + len₂, stack := v.toList ++ g.stack } := by
      refine e3.trans ?_
      rw [hf₂, State.calling_eq h.top, State.setFrames_setFrames, State.setTop_of_frames _ hr', hr]
      rfl
    have hsame : U.sameButNew ({ U with heap := s₂.heap, slotsUsed := s₂.slotsUsed } : State) L mc ms := by
      refine ⟨?_, q2, q3, q4, q5, q6⟩
      obtain ⟨t, ht, -⟩ := State.frames_cons hr
      show ({ U with heap := s₂.heap, slotsUsed := s₂.slotsUsed } : State) = { U.setFrames U.frames with heap := s₂.heap, slotsUsed := s₂.slotsUsed }
      rw [State.setFrames_self ht]
    subst hg
    refine Or.inl ⟨v, ⟨(({ U with heap := s₂.heap, slotsUsed := s₂.slotsUsed } : State).setVm s₂.vm), Ls ++ L, c0 + mc, s0 + ms⟩,
      ⟨X.admits, X.cas, X.clock, X.frames, X.room, X.hears, X.method, X.code, (X.here.setHeapUsed s₂.heap s₂.slotsUsed).setVm hW'.alike, X.tail, State.WarmedH.trans X.warmed hW', X.limits, X.bytes, X.same.trans (hsame.setVm s.vm)⟩,
      ⟨g, mk, s₂, L, rfl, rfl, hqc, rfl, hL, rfl, rfl⟩, ?_⟩
    show Steps p.tables e below _ ((({ U with heap := s₂.heap, slotsUsed := s₂.slotsUsed } : State).setVm s₂.vm).setTop { g with pc := g.pc + len₂, stack := v.toList ++ g.stack })
    rw [← hs₂]
    exact hsteps
  · obtain ⟨e2, q2, q3, q4, q5, q6⟩ := id hsm
    have e3 : s₂ = ({ (U.calling g mk a).setFrames s₂.frames with heap := s₂.heap, slotsUsed := s₂.slotsUsed } : State).setVm s₂.vm := by
      have : s₂ = ({ s₂ with vm := (U.calling g mk a).vm } : State).setVm s₂.vm := rfl
      rw [e2] at this
      exact this
    have hf₂ : s₂.frames = .throwing q :: .java g :: U.frames.tail := hend
    have hW' : U.WarmedH s₂.vm := hW₂
    have hs₂ : s₂ = ((({ U with heap := s₂.heap, slotsUsed := s₂.slotsUsed } : State).setVm s₂.vm).setTop g).pushFrame (.throwing q) := by
      refine e3.trans ?_
      rw [hf₂, State.calling_eq h.top, State.setFrames_setFrames, State.pushFrame, State.frames_setTop _ hr', State.setTop_of_frames _ hr', State.setFrames_setFrames, hr]
      rfl
    have hsame : U.sameButNew ({ U with heap := s₂.heap, slotsUsed := s₂.slotsUsed } : State) L mc ms := by
      refine ⟨?_, q2, q3, q4, q5, q6⟩
      obtain ⟨t, ht, -⟩ := State.frames_cons hr
      show ({ U with heap := s₂.heap, slotsUsed := s₂.slotsUsed } : State) = { U.setFrames U.frames with heap := s₂.heap, slotsUsed := s₂.slotsUsed }
      rw [State.setFrames_self ht]
    subst hg
    refine Or.inr ⟨q, ⟨(({ U with heap := s₂.heap, slotsUsed := s₂.slotsUsed } : State).setVm s₂.vm), Ls ++ L, c0 + mc, s0 + ms⟩,
      ⟨X.admits, X.cas, X.clock, X.frames, X.room, X.hears, X.method, X.code, (X.here.setHeapUsed s₂.heap s₂.slotsUsed).setVm hW'.alike, X.tail, State.WarmedH.trans X.warmed hW', X.limits, X.bytes, X.same.trans (hsame.setVm s.vm)⟩,
      ⟨g, mk, s₂, L, E, ce, rfl, rfl, hx, hce, hcv, hcl, rfl, hL, rfl, rfl⟩, ?_⟩
    show Steps p.tables e below _ (((({ U with heap := s₂.heap, slotsUsed := s₂.slotsUsed } : State).setVm s₂.vm).setTop g).pushFrame (.throwing q))
    rw [← hs₂]
    exact hsteps
end Payer
section Calls
variable {p : Program} {l : Launch} {e : Env} {R : Room} {s : State} {m : MethodId} {args : Array Value} {below : List Frame} {meth : Method} {c : Code} {T : State} {locs : List Loc} {cells slots : Nat}
theorem vx_callV (X : Stand p l e R s m args below meth c T locs cells slots) (hexec : p.tables.exec = Jvm.exec) {own C : String} {index : Nat} {y : MethodName} {bytes : ByteArray} {maxL : Nat} {ret : Option FieldType}
    (hown : s.vm.findClass own = some m.cls) (hlink : (Cond.methodLink own index y).before args s = true) (hinst : (Cond.instanceMethod y).before args s = true) (hsel : (Cond.selects C y y).before args s = true)
    (hcode : (Cond.code y bytes maxL ret).before args s = true) (hy : y.cls ≠ "java/lang/invoke/MethodHandle" ∧ y.cls ≠ "java/lang/invoke/VarHandle")
    {W9 : Nat} {Pre : Pt → Array Value → Prop} {Post : Pt → Array Value → Option Value → Pt → Prop} {PostX : Pt → Array Value → Addr → Pt → Prop} (hK : vx_Back l R p e below s args y 3 W9 Pre Post PostX)
    {b : Addr} {cellB : Cell} (hcell : T.heap[b]? = some cellB) (hobj : cellB.vm.isStatics = false) (hcls : s.vm.findClass C = some cellB.cls)
    {g : JFrame} (hg : g.method = m) (hsize : g.locals.size = c.maxLocals) {argsL rest : List Value} (hlen : ∀ sig, parseMethodDescriptor y.desc = some sig → argsL.length = sig.parameters.length)
    (hstack : g.stack = argsL.reverse ++ .ref b :: rest) (hW : 2 * g.monitorRoom + (rest.map fun v => v.category).sum ≤ W9) (hdg : decode c.code g.pc = .ok (.invokevirtual index, 3))
    (hpre : ∀ vm₁, s.WarmedH vm₁ → Pre ⟨T.setVm vm₁, locs, cells, slots⟩ (Value.ref b :: argsL).toArray) :
    (∃ (v : Option Value) (vm₁ : Vm) (B : Pt), s.WarmedH vm₁ ∧ Stand p l e R s m args below meth c B.U B.locs B.cells B.slots ∧ Post ⟨T.setVm vm₁, locs, cells, slots⟩ (Value.ref b :: argsL).toArray v B ∧
      ∀ target, Steps p.tables e below (B.U.setTop { g with pc := g.pc + 3, stack := v.toList ++ rest }) target → Steps p.tables e below (T.setTop g) target) ∨
    (∃ (q : Addr) (vm₁ : Vm) (B : Pt), s.WarmedH vm₁ ∧ Stand p l e R s m args below meth c B.U B.locs B.cells B.slots ∧ PostX ⟨T.setVm vm₁, locs, cells, slots⟩ (Value.ref b :: argsL).toArray q B ∧
      Steps p.tables e below (T.setTop g) ((B.U.setTop { g with stack := rest }).pushFrame (.throwing q))) := by
  obtain ⟨mk, methM, hnamed, hmethM, hstM, habM⟩ := Cond.instanceMethod_spec hinst
  obtain ⟨methM', cM, hmethM', -, -, -, -, -, -, hsigM⟩ := Cond.code_spec hnamed hcode
  cases hmethM.symm.trans hmethM'
  obtain ⟨c2, r2, m2, q1, q2, q3, q4, kP, hkP, hkPi⟩ := Cond.selects_spec hsel
  cases hcls.symm.trans q1
  cases (State.methodFound?_of_named hnamed hy).symm.trans q2
  cases hnamed.symm.trans q3
  have hselP : selectMethod e.platform s.vm cellB.cls mk = .method mk := by rw [Launch.admits_selectMethod X.admits]; exact q4
  obtain ⟨vm₁, X₁, hstep₁⟩ := X.invokevirtual hexec hown hlink hnamed hmethM hstM hkP hkPi hy (a := b) (cell := cellB) hcell
    (fun z h => by rw [h] at hobj; cases hobj) hselP hmethM habM hkP hkPi (g := g) hg (argsL := argsL) (rest := rest) (hlen _ hsigM) hstack hdg
  rcases hK m meth c ⟨T.setVm vm₁, locs, cells, slots⟩ { g with stack := rest } (.invokevirtual index) mk (Value.ref b :: argsL).toArray X₁ hg hsize hdg hW (X₁.named hnamed) (hpre vm₁ X₁.warmed) with ⟨v, B, X', hpost, hsteps⟩ | ⟨q, B, X', hpost, hsteps⟩
  · exact Or.inl ⟨v, vm₁, B, X₁.warmed, X', hpost, fun target h => hstep₁ _ fun acts => by rw [doInvoke_state]; exact hsteps.trans h⟩
  · exact Or.inr ⟨q, vm₁, B, X₁.warmed, X', hpost, hstep₁ _ fun acts => by rw [doInvoke_state]; exact hsteps⟩
theorem vx_callS (X : Stand p l e R s m args below meth c T locs cells slots) (hexec : p.tables.exec = Jvm.exec) {own : String} {index : Nat} {y : MethodName} {bytes : ByteArray} {maxL : Nat} {ret : Option FieldType}
    (hown : s.vm.findClass own = some m.cls) (hlink : (Cond.methodLink own index y).before args s = true) (hstat : (Cond.static y).before args s = true) (hinit : (Cond.initialized y.cls).before args s = true)
    (hcode : (Cond.code y bytes maxL ret).before args s = true) (hy : y.cls ≠ "java/lang/invoke/MethodHandle" ∧ y.cls ≠ "java/lang/invoke/VarHandle")
    {W9 : Nat} {Pre : Pt → Array Value → Prop} {Post : Pt → Array Value → Option Value → Pt → Prop} {PostX : Pt → Array Value → Addr → Pt → Prop} (hK : vx_Back l R p e below s args y 3 W9 Pre Post PostX)
    {g : JFrame} (hg : g.method = m) (hsize : g.locals.size = c.maxLocals) {argsL rest : List Value} (hlen : ∀ sig, parseMethodDescriptor y.desc = some sig → argsL.length = sig.parameters.length)
    (hstack : g.stack = argsL.reverse ++ rest) (hW : 2 * g.monitorRoom + (rest.map fun v => v.category).sum ≤ W9) (hdg : decode c.code g.pc = .ok (.invokestatic index, 3))
    (hpre : ∀ vm₁, s.WarmedH vm₁ → Pre ⟨T.setVm vm₁, locs, cells, slots⟩ argsL.toArray) :
    (∃ (v : Option Value) (vm₁ : Vm) (B : Pt), s.WarmedH vm₁ ∧ Stand p l e R s m args below meth c B.U B.locs B.cells B.slots ∧ Post ⟨T.setVm vm₁, locs, cells, slots⟩ argsL.toArray v B ∧
      ∀ target, Steps p.tables e below (B.U.setTop { g with pc := g.pc + 3, stack := v.toList ++ rest }) target → Steps p.tables e below (T.setTop g) target) ∨
    (∃ (q : Addr) (vm₁ : Vm) (B : Pt), s.WarmedH vm₁ ∧ Stand p l e R s m args below meth c B.U B.locs B.cells B.slots ∧ PostX ⟨T.setVm vm₁, locs, cells, slots⟩ argsL.toArray q B ∧
      Steps p.tables e below (T.setTop g) ((B.U.setTop { g with stack := rest }).pushFrame (.throwing q))) := by
  obtain ⟨mk, hnamed⟩ := Cond.code_named hcode
  obtain ⟨methM, cM, hmethM, -, -, -, -, -, -, hsigM⟩ := Cond.code_spec hnamed hcode
  have hstatic : methM.isStatic = true := Cond.static_spec hnamed hmethM hstat
  obtain ⟨kP, hkP, -⟩ := className_of_methodNamed hnamed
  have hinitP : kP.init = .initialized := Cond.initialized_spec (findClass_of_methodNamed hnamed) hkP hinit
  obtain ⟨vm₁, X₁, hstep₁⟩ := X.invokestatic hexec hown hlink hnamed hmethM hstatic hkP hinitP hy (g := g) hg (argsL := argsL) (rest := rest) (hlen _ hsigM) hstack hdg
  rcases hK m meth c ⟨T.setVm vm₁, locs, cells, slots⟩ { g with stack := rest } (.invokestatic index) mk argsL.toArray X₁ hg hsize hdg hW (X₁.named hnamed) (hpre vm₁ X₁.warmed) with ⟨v, B, X', hpost, hsteps⟩ | ⟨q, B, X', hpost, hsteps⟩
  · exact Or.inl ⟨v, vm₁, B, X₁.warmed, X', hpost, fun target h => hstep₁ _ fun acts => by rw [doInvoke_state]; exact hsteps.trans h⟩
  · exact Or.inr ⟨q, vm₁, B, X₁.warmed, X', hpost, hstep₁ _ fun acts => by rw [doInvoke_state]; exact hsteps⟩
end Calls
theorem vx_cls {s : State} {T : State} {vm₁ : Vm} {E : String} {k : ClassId} (hW : s.WarmedH vm₁) (h : (T.setVm vm₁).vm.findClass E = some k) : s.vm.findClass E = some k := by
  have h1 : vm₁.findClass E = some k := h
  rw [hW.alike.findClass] at h1
  exact h1
/-- the method's frame g, with q thrown over it -/
def vx_W (p : Program) (l : Launch) (e : Env) (R : Room) (s : State) (m : MethodId) (args : Array Value) (below : List Frame) (meth : Method) (c : Code) (H : Heap) (locs : List Loc) (cells slots : Nat) (Q : State → Prop) (g : JFrame) (q : Addr) : Prop :=
  ∀ T : State, T.heap = H → Stand p l e R s m args below meth c T locs cells slots → ∃ t, Steps p.tables e below ((T.setTop g).pushFrame (.throwing q)) t ∧ Q t
def vx_Run (p : Program) (l : Launch) (e : Env) (R : Room) (s : State) (m : MethodId) (args : Array Value) (below : List Frame) (meth : Method) (c : Code) (H : Heap) (locs : List Loc) (cells slots mc ms : Nat) (g : JFrame) (rest : List Value) (Qa : State → Outcome → State → Prop) (XC : String → State → State → Prop) (free : Addr → Prop) : Prop :=
  ∀ T : State, T.heap = H → Stand p l e R s m args below meth c T locs cells slots →
    (∃ (v : Option Value) (st₀ t T' : State) (L : List Loc), st₀.heap = H ∧ Stand p l e R s m args below meth c T' (locs ++ L) (cells + mc) (slots + ms) ∧ (∀ q ∈ L, free q.base) ∧ T'.heap = t.heap ∧ T'.vm = t.vm ∧ Qa st₀ (.returned v) t ∧
      Goes p e below T g T' { g with pc := g.pc + 3, stack := v.toList ++ rest }) ∨
    (∃ (q : Addr) (st₀ t T' : State) (L : List Loc) (E : String) (ce : Cell), st₀.heap = H ∧ Stand p l e R s m args below meth c T' (locs ++ L) (cells + mc) (slots + ms) ∧ (∀ z ∈ L, free z.base) ∧ T'.heap = t.heap ∧ T'.vm = t.vm ∧ XC E st₀ t ∧ t.heap[q]? = some ce ∧ ce.vm = .none ∧ s.vm.findClass E = some ce.cls ∧
      Steps p.tables e below (T.setTop g) ((T'.setTop { g with stack := rest }).pushFrame (.throwing q)))
def vx_X {S : Type} (px : S → Prop) (B : String → S → State → Prop) (A : Nat → Prop) : String → State → State → Prop := fun E st t => ∃ u : S, px u ∧ B E u t ∧ va_F A st t
section Runs
variable {p : Program} {l : Launch} {e : Env} {R : Room} {s : State} {m : MethodId} {args : Array Value} {below : List Frame} {meth : Method} {c : Code} {H : Heap} {locs : List Loc} {cells slots : Nat}
variable {y : MethodName} {bytes cc : ByteArray} {maxL nL mc ms n index : Nat} {ret : Option FieldType} {ws : List Cond} {rm : Room} {Pc : Array Value → State → Prop} {Qc : Array Value → State → Outcome → State → Prop} {XC : String → State → State → Prop} {free : Addr → Prop} {Ts : List Cond} {own C : String} {b : Addr} {As rest : List Value} {g : JFrame}
theorem vx_callBack (cb : CallB R s args own index y bytes maxL ret ws rm mc ms n) (hM : vx_Met l y ws rm Pc Qc XC mc ms free) (hbl : FrameBlind Pc) : vx_Back l R p e below s args y 3 8 (PreOf R mc ms Pc) (PostOf Qc mc ms free) (vx_Post XC mc ms free) := by
  obtain ⟨hrc, hrs, hfr, hlo, hws, hcw, -, hini, -⟩ := cb
  exact vx_back (bytes := bytes) (maxL := maxL) (ret := ret) hM hbl hrc hrs hfr hlo hws hcw (fun a' U hW => word_at hW (Or.inl (by first | rfl | simp [Cond.onTables, Cond.keeps, Cond.steady])) hini)
theorem vx_runV (S : CallFix p m c cc nL s args Ts own) (hM : vx_Met l y ws rm Pc Qc XC mc ms free) (cw : CallW R s args own C index y bytes maxL ret ws rm mc ms n) (hp : PreV s H C b Pc As)
    (hg : g.method = m) (hn : As.length = n) (hsize : g.locals.size = nL) (hstack : g.stack = As.reverse ++ .ref b :: rest) (hW : 2 * g.monitorRoom + (rest.map fun v => v.category).sum ≤ 8) (hdg : decode cc g.pc = .ok (.invokevirtual index, 3)) (hf : cells + mc ≤ R.cells ∧ slots + ms ≤ R.slots) :
    vx_Run p l e R s m args below meth c H locs cells slots mc ms g rest (Qc (Value.ref b :: As).toArray) XC free := by
  have hK : vx_Back l R p e below s args y 3 8 (PreOf R mc ms Pc) (PostOf Qc mc ms free) (vx_Post XC mc ms free) := vx_callBack cw.1 hM hp.1
  obtain ⟨⟨-, -, -, -, -, -, hcode, -, hy, hlen, hl⟩, hin, hse⟩ := cw
  obtain ⟨hx, hb, hml, ho, -⟩ := S
  obtain ⟨-, ⟨cellB, hcB, hoB, hclB⟩, hPc⟩ := hp
  intro T hT X
  rcases vx_callV X hx (C := C) (bytes := bytes) (maxL := maxL) (ret := ret) ho hl hin hse hcode hy hK (by rw [hT]; exact hcB) hoB hclB hg (hsize.trans hml.symm) (argsL := As) (rest := rest) (fun sig h => hn.trans (hlen sig h)) hstack hW (by rw [hb]; exact hdg)
    (fun vm₁ hW₁ => ⟨hf.1, hf.2, hPc (T.setVm vm₁) hT hW₁⟩) with ⟨v, vm₁, ⟨U', l2, c2, s2⟩, hW₁, X', ⟨g', mk, t, L, e1, e2, hq, h1, hL, h2, h3⟩, st⟩ | ⟨q, vm₁, ⟨U', l2, c2, s2⟩, hW₁, X', ⟨g', mk, t, L, E, ce, e1, e2, hq, hce, hcv, hcl, h1, hL, h2, h3⟩, st⟩
  · dsimp only [Pt.U, Pt.locs, Pt.cells, Pt.slots] at X' e1 e2 h1 h2 h3 st
    subst h1; subst h2; subst h3
    exact Or.inl ⟨v, (T.setVm vm₁).calling g' mk (Value.ref b :: As).toArray, t, U', L, hT, X', hL, e1, e2, hq, st⟩
  · dsimp only [Pt.U, Pt.locs, Pt.cells, Pt.slots] at X' e1 e2 h1 h2 h3 st hcl
    subst h1; subst h2; subst h3
    exact Or.inr ⟨q, (T.setVm vm₁).calling g' mk (Value.ref b :: As).toArray, t, U', L, E, ce, hT, X', hL, e1, e2, hq, hce, hcv, vx_cls hW₁ hcl, st⟩
theorem vx_runS (S : CallFix p m c cc nL s args Ts own) (hM : vx_Met l y ws rm Pc Qc XC mc ms free) (cw : CallB R s args own index y bytes maxL ret ws rm mc ms n ∧ (Cond.static y).before args s = true) (hp : PreS s H Pc As)
    (hg : g.method = m) (hn : As.length = n) (hsize : g.locals.size = nL) (hstack : g.stack = As.reverse ++ rest) (hW : 2 * g.monitorRoom + (rest.map fun v => v.category).sum ≤ 8) (hdg : decode cc g.pc = .ok (.invokestatic index, 3)) (hf : cells + mc ≤ R.cells ∧ slots + ms ≤ R.slots) :
    vx_Run p l e R s m args below meth c H locs cells slots mc ms g rest (Qc As.toArray) XC free := by
  have hK : vx_Back l R p e below s args y 3 8 (PreOf R mc ms Pc) (PostOf Qc mc ms free) (vx_Post XC mc ms free) := vx_callBack cw.1 hM hp.1
  obtain ⟨⟨-, -, -, -, -, -, hcode, hini, hy, hlen, hl⟩, hstt⟩ := cw
  obtain ⟨hx, hb, hml, ho, -⟩ := S
  intro T hT X
  rcases vx_callS X hx (bytes := bytes) (maxL := maxL) (ret := ret) ho hl hstt hini hcode hy hK hg (hsize.trans hml.symm) (argsL := As) (rest := rest) (fun sig h => hn.trans (hlen sig h)) hstack hW (by rw [hb]; exact hdg)
    (fun vm₁ hW₁ => ⟨hf.1, hf.2, hp.2 (T.setVm vm₁) hT hW₁⟩) with ⟨v, vm₁, ⟨U', l2, c2, s2⟩, hW₁, X', ⟨g', mk, t, L, e1, e2, hq, h1, hL, h2, h3⟩, st⟩ | ⟨q, vm₁, ⟨U', l2, c2, s2⟩, hW₁, X', ⟨g', mk, t, L, E, ce, e1, e2, hq, hce, hcv, hcl, h1, hL, h2, h3⟩, st⟩
  · dsimp only [Pt.U, Pt.locs, Pt.cells, Pt.slots] at X' e1 e2 h1 h2 h3 st
    subst h1; subst h2; subst h3
    exact Or.inl ⟨v, (T.setVm vm₁).calling g' mk As.toArray, t, U', L, hT, X', hL, e1, e2, hq, st⟩
  · dsimp only [Pt.U, Pt.locs, Pt.cells, Pt.slots] at X' e1 e2 h1 h2 h3 st hcl
    subst h1; subst h2; subst h3
    exact Or.inr ⟨q, (T.setVm vm₁).calling g' mk As.toArray, t, U', L, E, ce, hT, X', hL, e1, e2, hq, hce, hcv, vx_cls hW₁ hcl, st⟩
end Runs
section Rows
variable {p : Program} {l : Launch} {e : Env} {R : Room} {s : State} {m : MethodId} {args : Array Value} {below : List Frame} {meth : Method} {c : Code} {H : Heap} {locs : List Loc} {cells slots : Nat} {Q : State → Prop}
variable {mc ms : Nat} {free : Addr → Prop} {A0 A1 : Nat → Prop} {H0 : Heap} {a : Array Value} {pc : Nat} {ls : Array Slot} {st0 rest : List Value}
theorem vx_keep {st₀ t T' : State} {L : List Loc} (h0 : st₀.heap = H) (e1 : T'.heap = t.heap) (hS : va_S A0 H0 H locs) (hA : ∀ q, q < H.size → A1 q → A0 q) (hf : ∀ q, free q → A0 q) (hL : ∀ q ∈ L, free q.base) (hF : va_F A1 st₀ t) :
    H.size ≤ T'.heap.size ∧ (∀ q : Nat, q < H.size → ¬ A1 q → T'.heap[q]? = H[q]?) ∧ va_S A0 H0 T'.heap (locs ++ L) := by
  obtain ⟨hz, hk⟩ := hF
  rw [h0] at hz hk
  exact ⟨by rw [e1]; exact hz, fun q h1 h2 => by rw [e1]; exact hk q h1 h2,
    ⟨Nat.le_trans hS.1 (by rw [e1]; exact hz), fun q h1 h2 => by rw [e1, hk q (Nat.lt_of_lt_of_le h1 hS.1) (fun z => h2 (hA q (Nat.lt_of_lt_of_le h1 hS.1) z))]; exact hS.2.1 q h1 h2, fun q hq => by
      rcases List.mem_append.mp hq with h | h
      · exact hS.2.2 q h
      · exact hf _ (hL q h)⟩⟩
theorem vx_calli {S SX : Type} {post : Int32 → S → Prop} {px : SX → Prop} {B : S → State → Prop} {BX : String → SX → State → Prop} {AX : Nat → Prop} (hr : vx_Run p l e R s m args below meth c H locs cells slots mc ms (F0 m pc ls st0) rest (va_Qi post B A1 a) (vx_X px BX AX) free) (hS : va_S A0 H0 H locs) (hA : ∀ q, q < H.size → A1 q → A0 q) (hf : ∀ q, free q → A0 q) (hAX : ∀ q, q < H.size → AX q → A0 q)
    (kx : ∀ (E : String) (ce : Cell) (q9 : Addr) (u : SX) (t : State) (H1 : Heap) (locs1 : List Loc), t.heap = H1 → s.vm.Alike t.vm → px u → BX E u t → H.size ≤ H1.size → (∀ q : Nat, q < H.size → ¬ AX q → H1[q]? = H[q]?) → va_S A0 H0 H1 locs1 → H1[q9]? = some ce → ce.vm = .none → s.vm.findClass E = some ce.cls → vx_W p l e R s m args below meth c H1 locs1 (cells + mc) (slots + ms) Q (F0 m pc ls rest) q9)
    (kk : ∀ (r : Int32) (u : S) (t : State) (H1 : Heap) (locs1 : List Loc), t.heap = H1 → s.vm.Alike t.vm → post r u → B u t → H.size ≤ H1.size → (∀ q : Nat, q < H.size → ¬ A1 q → H1[q]? = H[q]?) → va_S A0 H0 H1 locs1 → W p l e R s m args below meth c H1 locs1 (cells + mc) (slots + ms) Q (F0 m (pc + 3) ls (.int r :: rest))) : W p l e R s m args below meth c H locs cells slots Q (F0 m pc ls st0) := by
  intro T hT X
  rcases hr T hT X with ⟨v, st₀, t, T', L, h0, X', hL, e1, e2, ⟨⟨r, u, hv, hp, hb⟩, hF⟩, st⟩ | ⟨q, st₀, t, T', L, E, ce, h0, X', hL, e1, e2, ⟨u, hp, hb, hF⟩, hce, hcv, hcl, st⟩
  · cases hv
    obtain ⟨k1, k2, k3⟩ := vx_keep h0 e1 hS hA hf hL hF
    obtain ⟨t2, a1, b1⟩ := kk r u t T'.heap (locs ++ L) e1.symm (by rw [← e2]; exact X'.warmed.alike) hp hb k1 k2 k3 T' rfl X'
    exact ⟨t2, st t2 a1, b1⟩
  · obtain ⟨k1, k2, k3⟩ := vx_keep h0 e1 hS hAX hf hL hF
    obtain ⟨t2, a1, b1⟩ := kx E ce q u t T'.heap (locs ++ L) e1.symm (by rw [← e2]; exact X'.warmed.alike) hp hb k1 k2 k3 (by rw [e1]; exact hce) hcv hcl T' rfl X'
    exact ⟨t2, st.trans a1, b1⟩
theorem vx_calll {S SX : Type} {post : Int64 → S → Prop} {px : SX → Prop} {B : S → State → Prop} {BX : String → SX → State → Prop} {AX : Nat → Prop} (hr : vx_Run p l e R s m args below meth c H locs cells slots mc ms (F0 m pc ls st0) rest (va_Ql post B A1 a) (vx_X px BX AX) free) (hS : va_S A0 H0 H locs) (hA : ∀ q, q < H.size → A1 q → A0 q) (hf : ∀ q, free q → A0 q) (hAX : ∀ q, q < H.size → AX q → A0 q)
    (kx : ∀ (E : String) (ce : Cell) (q9 : Addr) (u : SX) (t : State) (H1 : Heap) (locs1 : List Loc), t.heap = H1 → s.vm.Alike t.vm → px u → BX E u t → H.size ≤ H1.size → (∀ q : Nat, q < H.size → ¬ AX q → H1[q]? = H[q]?) → va_S A0 H0 H1 locs1 → H1[q9]? = some ce → ce.vm = .none → s.vm.findClass E = some ce.cls → vx_W p l e R s m args below meth c H1 locs1 (cells + mc) (slots + ms) Q (F0 m pc ls rest) q9)
    (kk : ∀ (r : Int64) (u : S) (t : State) (H1 : Heap) (locs1 : List Loc), t.heap = H1 → s.vm.Alike t.vm → post r u → B u t → H.size ≤ H1.size → (∀ q : Nat, q < H.size → ¬ A1 q → H1[q]? = H[q]?) → va_S A0 H0 H1 locs1 → W p l e R s m args below meth c H1 locs1 (cells + mc) (slots + ms) Q (F0 m (pc + 3) ls (.long r :: rest))) : W p l e R s m args below meth c H locs cells slots Q (F0 m pc ls st0) := by
  intro T hT X
  rcases hr T hT X with ⟨v, st₀, t, T', L, h0, X', hL, e1, e2, ⟨⟨r, u, hv, hp, hb⟩, hF⟩, st⟩ | ⟨q, st₀, t, T', L, E, ce, h0, X', hL, e1, e2, ⟨u, hp, hb, hF⟩, hce, hcv, hcl, st⟩
  · cases hv
    obtain ⟨k1, k2, k3⟩ := vx_keep h0 e1 hS hA hf hL hF
    obtain ⟨t2, a1, b1⟩ := kk r u t T'.heap (locs ++ L) e1.symm (by rw [← e2]; exact X'.warmed.alike) hp hb k1 k2 k3 T' rfl X'
    exact ⟨t2, st t2 a1, b1⟩
  · obtain ⟨k1, k2, k3⟩ := vx_keep h0 e1 hS hAX hf hL hF
    obtain ⟨t2, a1, b1⟩ := kx E ce q u t T'.heap (locs ++ L) e1.symm (by rw [← e2]; exact X'.warmed.alike) hp hb k1 k2 k3 (by rw [e1]; exact hce) hcv hcl T' rfl X'
    exact ⟨t2, st.trans a1, b1⟩
theorem vx_callf {S SX : Type} {post : UInt32 → S → Prop} {px : SX → Prop} {B : S → State → Prop} {BX : String → SX → State → Prop} {AX : Nat → Prop} (hr : vx_Run p l e R s m args below meth c H locs cells slots mc ms (F0 m pc ls st0) rest (va_Qf post B A1 a) (vx_X px BX AX) free) (hS : va_S A0 H0 H locs) (hA : ∀ q, q < H.size → A1 q → A0 q) (hf : ∀ q, free q → A0 q) (hAX : ∀ q, q < H.size → AX q → A0 q)
    (kx : ∀ (E : String) (ce : Cell) (q9 : Addr) (u : SX) (t : State) (H1 : Heap) (locs1 : List Loc), t.heap = H1 → s.vm.Alike t.vm → px u → BX E u t → H.size ≤ H1.size → (∀ q : Nat, q < H.size → ¬ AX q → H1[q]? = H[q]?) → va_S A0 H0 H1 locs1 → H1[q9]? = some ce → ce.vm = .none → s.vm.findClass E = some ce.cls → vx_W p l e R s m args below meth c H1 locs1 (cells + mc) (slots + ms) Q (F0 m pc ls rest) q9)
    (kk : ∀ (r : UInt32) (u : S) (t : State) (H1 : Heap) (locs1 : List Loc), t.heap = H1 → s.vm.Alike t.vm → post r u → B u t → H.size ≤ H1.size → (∀ q : Nat, q < H.size → ¬ A1 q → H1[q]? = H[q]?) → va_S A0 H0 H1 locs1 → W p l e R s m args below meth c H1 locs1 (cells + mc) (slots + ms) Q (F0 m (pc + 3) ls (.float r :: rest))) : W p l e R s m args below meth c H locs cells slots Q (F0 m pc ls st0) := by
  intro T hT X
  rcases hr T hT X with ⟨v, st₀, t, T', L, h0, X', hL, e1, e2, ⟨⟨r, u, hv, hp, hb⟩, hF⟩, st⟩ | ⟨q, st₀, t, T', L, E, ce, h0, X', hL, e1, e2, ⟨u, hp, hb, hF⟩, hce, hcv, hcl, st⟩
  · cases hv
    obtain ⟨k1, k2, k3⟩ := vx_keep h0 e1 hS hA hf hL hF
    obtain ⟨t2, a1, b1⟩ := kk r u t T'.heap (locs ++ L) e1.symm (by rw [← e2]; exact X'.warmed.alike) hp hb k1 k2 k3 T' rfl X'
    exact ⟨t2, st t2 a1, b1⟩
  · obtain ⟨k1, k2, k3⟩ := vx_keep h0 e1 hS hAX hf hL hF
    obtain ⟨t2, a1, b1⟩ := kx E ce q u t T'.heap (locs ++ L) e1.symm (by rw [← e2]; exact X'.warmed.alike) hp hb k1 k2 k3 (by rw [e1]; exact hce) hcv hcl T' rfl X'
    exact ⟨t2, st.trans a1, b1⟩
theorem vx_calld {S SX : Type} {post : UInt64 → S → Prop} {px : SX → Prop} {B : S → State → Prop} {BX : String → SX → State → Prop} {AX : Nat → Prop} (hr : vx_Run p l e R s m args below meth c H locs cells slots mc ms (F0 m pc ls st0) rest (va_Qd post B A1 a) (vx_X px BX AX) free) (hS : va_S A0 H0 H locs) (hA : ∀ q, q < H.size → A1 q → A0 q) (hf : ∀ q, free q → A0 q) (hAX : ∀ q, q < H.size → AX q → A0 q)
    (kx : ∀ (E : String) (ce : Cell) (q9 : Addr) (u : SX) (t : State) (H1 : Heap) (locs1 : List Loc), t.heap = H1 → s.vm.Alike t.vm → px u → BX E u t → H.size ≤ H1.size → (∀ q : Nat, q < H.size → ¬ AX q → H1[q]? = H[q]?) → va_S A0 H0 H1 locs1 → H1[q9]? = some ce → ce.vm = .none → s.vm.findClass E = some ce.cls → vx_W p l e R s m args below meth c H1 locs1 (cells + mc) (slots + ms) Q (F0 m pc ls rest) q9)
    (kk : ∀ (r : UInt64) (u : S) (t : State) (H1 : Heap) (locs1 : List Loc), t.heap = H1 → s.vm.Alike t.vm → post r u → B u t → H.size ≤ H1.size → (∀ q : Nat, q < H.size → ¬ A1 q → H1[q]? = H[q]?) → va_S A0 H0 H1 locs1 → W p l e R s m args below meth c H1 locs1 (cells + mc) (slots + ms) Q (F0 m (pc + 3) ls (.double r :: rest))) : W p l e R s m args below meth c H locs cells slots Q (F0 m pc ls st0) := by
  intro T hT X
  rcases hr T hT X with ⟨v, st₀, t, T', L, h0, X', hL, e1, e2, ⟨⟨r, u, hv, hp, hb⟩, hF⟩, st⟩ | ⟨q, st₀, t, T', L, E, ce, h0, X', hL, e1, e2, ⟨u, hp, hb, hF⟩, hce, hcv, hcl, st⟩
  · cases hv
    obtain ⟨k1, k2, k3⟩ := vx_keep h0 e1 hS hA hf hL hF
    obtain ⟨t2, a1, b1⟩ := kk r u t T'.heap (locs ++ L) e1.symm (by rw [← e2]; exact X'.warmed.alike) hp hb k1 k2 k3 T' rfl X'
    exact ⟨t2, st t2 a1, b1⟩
  · obtain ⟨k1, k2, k3⟩ := vx_keep h0 e1 hS hAX hf hL hF
    obtain ⟨t2, a1, b1⟩ := kx E ce q u t T'.heap (locs ++ L) e1.symm (by rw [← e2]; exact X'.warmed.alike) hp hb k1 k2 k3 (by rw [e1]; exact hce) hcv hcl T' rfl X'
    exact ⟨t2, st.trans a1, b1⟩
theorem vx_callv {S SX : Type} {post : S → Prop} {px : SX → Prop} {B : S → State → Prop} {BX : String → SX → State → Prop} {AX : Nat → Prop} (hr : vx_Run p l e R s m args below meth c H locs cells slots mc ms (F0 m pc ls st0) rest (va_Qv post B A1 a) (vx_X px BX AX) free) (hS : va_S A0 H0 H locs) (hA : ∀ q, q < H.size → A1 q → A0 q) (hf : ∀ q, free q → A0 q) (hAX : ∀ q, q < H.size → AX q → A0 q)
    (kx : ∀ (E : String) (ce : Cell) (q9 : Addr) (u : SX) (t : State) (H1 : Heap) (locs1 : List Loc), t.heap = H1 → s.vm.Alike t.vm → px u → BX E u t → H.size ≤ H1.size → (∀ q : Nat, q < H.size → ¬ AX q → H1[q]? = H[q]?) → va_S A0 H0 H1 locs1 → H1[q9]? = some ce → ce.vm = .none → s.vm.findClass E = some ce.cls → vx_W p l e R s m args below meth c H1 locs1 (cells + mc) (slots + ms) Q (F0 m pc ls rest) q9)
    (kk : ∀ (u : S) (t : State) (H1 : Heap) (locs1 : List Loc), t.heap = H1 → s.vm.Alike t.vm → post u → B u t → H.size ≤ H1.size → (∀ q : Nat, q < H.size → ¬ A1 q → H1[q]? = H[q]?) → va_S A0 H0 H1 locs1 → W p l e R s m args below meth c H1 locs1 (cells + mc) (slots + ms) Q (F0 m (pc + 3) ls (rest))) : W p l e R s m args below meth c H locs cells slots Q (F0 m pc ls st0) := by
  intro T hT X
  rcases hr T hT X with ⟨v, st₀, t, T', L, h0, X', hL, e1, e2, ⟨⟨u, hv, hp, hb⟩, hF⟩, st⟩ | ⟨q, st₀, t, T', L, E, ce, h0, X', hL, e1, e2, ⟨u, hp, hb, hF⟩, hce, hcv, hcl, st⟩
  · cases hv
    obtain ⟨k1, k2, k3⟩ := vx_keep h0 e1 hS hA hf hL hF
    obtain ⟨t2, a1, b1⟩ := kk u t T'.heap (locs ++ L) e1.symm (by rw [← e2]; exact X'.warmed.alike) hp hb k1 k2 k3 T' rfl X'
    exact ⟨t2, st t2 a1, b1⟩
  · obtain ⟨k1, k2, k3⟩ := vx_keep h0 e1 hS hAX hf hL hF
    obtain ⟨t2, a1, b1⟩ := kx E ce q u t T'.heap (locs ++ L) e1.symm (by rw [← e2]; exact X'.warmed.alike) hp hb k1 k2 k3 (by rw [e1]; exact hce) hcv hcl T' rfl X'
    exact ⟨t2, st.trans a1, b1⟩
/-- caught by the row x of this method's table; the rows ahead don't take it -/
theorem vx_catch {own name : String} {E : String} {ce : Cell} {q : Addr} (hown : s.vm.findClass own = some m.cls) (pre : List ExceptionTableEntry) (x : ExceptionTableEntry) (suf : List ExceptionTableEntry) (hsplit : c.exceptionTable.toList = pre ++ x :: suf)
    (hpass : ∀ z ∈ pre, covers z pc = false ∨ (z.catchType ≠ 0 ∧ ∃ nm : String, (Cond.classLink own z.catchType nm).before args s = true ∧ va_Nc E nm s)) (hx : covers x pc = true) (h0 : x.catchType ≠ 0)
    (hlink : (Cond.classLink own x.catchType name).before args s = true) (hcast : (Cond.castable E name).before args s = true) (hcell : H[q]? = some ce) (hv : ce.vm = .none) (hcl : s.vm.findClass E = some ce.cls)
    (kk : W p l e R s m args below meth c H locs cells slots Q (F0 m x.handlerPc ls [.ref q])) : vx_W p l e R s m args below meth c H locs cells slots Q (F0 m pc ls rest) q := by
  intro T hT X
  have hpl : e.platform.magicAccessors = ({} : Platform).magicAccessors := by rw [X.admits.platform]
  obtain ⟨c3, c4, hc3, hc4, hasg⟩ := Cond.castable_spec hcast
  cases Option.some.inj (hc3.symm.trans hcl)
  obtain ⟨c5, hc5, hcl5⟩ := Cond.classLink_spec hown hlink e.platform hpl
  cases Option.some.inj (hc4.symm.trans hc5)
  obtain ⟨vm', X', st⟩ := X.thenCaughtThrough q (g := F0 m pc ls rest) rfl (Steps.refl _) (by rw [hT]; exact hcell) (by rw [hv]; rfl) (by obtain ⟨k9, h9, -⟩ := Vm.findClass_spec hcl; exact ⟨k9, h9⟩) pre x suf hsplit
    (fun z hz => by
      rcases hpass z hz with h | ⟨hz0, nm, hl1, hn1⟩
      · exact Or.inl h
      · obtain ⟨c6, hc6, hcl6⟩ := Cond.classLink_spec hown hl1 e.platform hpl
        obtain ⟨a8, b8, h1, h2, h3⟩ := hn1
        cases Option.some.inj (h1.symm.trans hcl)
        cases Option.some.inj (h2.symm.trans hc6)
        exact Or.inr ⟨hz0, _, hcl6, h3⟩) hx (Or.inr ⟨h0, c4, hcl5, hasg⟩)
  obtain ⟨t, a1, b1⟩ := kk (T.setVm vm') hT X'
  exact ⟨t, st.trans a1, b1⟩
end Rows
section Ends
variable {p : Program} {l : Launch} {e : Env} {R : Room} {s : State} {m : MethodId} {args : Array Value} {below : List Frame} {meth : Method} {c : Code} {H : Heap} {locs : List Loc} {cells slots : Nat} {Q : State → Prop}
variable {mc ms : Nat} {free : Addr → Prop} {A0 A1 : Nat → Prop} {H0 : Heap} {a : Array Value} {ls : Array Slot} {st0 rest : List Value}
variable {Qc : Array Value → State → Outcome → State → Prop} {XC : String → State → State → Prop}
/-- what a body that may throw owes at its end -/
def vx_MQ (below : List Frame) (Qc : Array Value → State → Outcome → State → Prop) (XC : String → State → State → Prop) (a : Array Value) (s : State) (mc ms : Nat) (free : Addr → Prop) : State → Prop := fun t =>
  ∃ o, t.status = .running ∧ Ended t below o ∧ vx_Q Qc XC mc ms free a s o t
theorem vx_ret {g : JFrame} {mc ms : Nat} (k : W p l e R s m args below meth c H locs cells slots (MQ below Qc args s mc ms free) g) : W p l e R s m args below meth c H locs cells slots (vx_MQ below Qc XC args s mc ms free) g := by
  intro T hT X
  obtain ⟨t, a1, o, b1, b2, b3, b4⟩ := k T hT X
  exact ⟨t, a1, o, b1, b2, Or.inl ⟨b3, b4⟩⟩
/-- not caught here: it goes on to the caller -/
theorem vx_widen {g : JFrame} {q : Addr} {k n : Nat} (h1 : cells ≤ k) (h2 : slots ≤ n) (kk : vx_W p l e R s m args below meth c H locs k n Q g q) : vx_W p l e R s m args below meth c H locs cells slots Q g q := fun T hT X => kk T hT (stand_widen X h1 h2)
theorem vx_out {pc : Nat} {E : String} {ce : Cell} {q : Addr} {mc ms : Nat} (hout : ∀ x ∈ c.exceptionTable.toList, covers x pc = false) (hlocks : meth.locks = false) (hcell : H[q]? = some ce) (hv : ce.vm = .none) (hcl : s.vm.findClass E = some ce.cls)
    (hx : ∀ t : State, t.heap = H → s.vm.Alike t.vm → XC E s t) (hf : ∀ z ∈ locs, free z.base) (hc : cells ≤ mc) (hs : slots ≤ ms) :
    vx_W p l e R s m args below meth c H locs cells slots (vx_MQ below Qc XC args s mc ms free) (F0 m pc ls rest) q := by
  intro T hT X
  obtain ⟨st1, hrun, hend, hW, hsm⟩ := X.leaveThrown q (g := F0 m pc ls rest) rfl rfl rfl hout hlocks
  have hcell9 : (T.setFrames (.throwing q :: below)).heap[q]? = some ce := by
    show T.heap[q]? = some ce
    rw [hT]; exact hcell
  exact ⟨_, st1, .threw q, hrun, hend, Or.inr ⟨q, rfl, E, ce, locs, hx _ hT hW.alike, hcell9, hv, hcl, hW, hsm.mono hc hs, hf⟩⟩
theorem vx_frame {U : State} {k n : Nat} (h : s.sameButNew ({ U with vm := s.vm } : State) locs k n) : s.heap.size ≤ U.heap.size ∧ ∀ q : Nat, q < s.heap.size → (∀ z ∈ locs, z.base ≠ q) → U.heap[q]? = s.heap[q]? := by
  obtain ⟨-, h2, -, -, -, h6⟩ := h
  refine ⟨h2, fun q hq hz => ?_⟩
  obtain ⟨c9, e1, e2, e3, e4⟩ := h6 q _ (Array.getElem?_eq_getElem hq)
  have hs : c9.slots = (s.heap[q]).slots := Array.ext_getElem? fun i => e4 i fun hm => hz _ hm rfl
  have h9 : c9 = s.heap[q] := by
    rw [hs] at e2
    exact e2
  have e5 : U.heap[q]? = some c9 := e1
  rw [e5, h9, Array.getElem?_eq_getElem hq]
/-- the words of a throw but the four that speak of the heap -/
def vx_no (w : Cond) : Bool := decide (w ≠ .isRef (.static Bundle.tN "UNASSIGNED_STACK" Bundle.steD)) && decide (w ≠ .isRef (.static Bundle.tN "SUPPRESSED_SENTINEL" Bundle.listD)) && decide (w ≠ .laysStatic Bundle.tN "UNASSIGNED_STACK" Bundle.steD) && decide (w ≠ .laysStatic Bundle.tN "SUPPRESSED_SENTINEL" Bundle.listD)
def vx_at0 (own : String) (ic : Nat) (X : String) (names : List String) : List Cond := (Bundle.ownAtoms0 own ic X names).filter vx_no
def vx_atS (own : String) (ic : Nat) (X : String) (names : List String) : List Cond := (Bundle.ownAtoms own ic X names).filter vx_no
/-- a word that the tables alone decide, or a good one -/
def vx_ot (w : Cond) : Bool := w.onTables || goodWord w
theorem vx_ot_at {args a' : Array Value} {s U : State} {w : Cond} (hW : s.WarmedH U.vm) (hvm : s.vm = U.vm) (hg : vx_ot w = true) (h : w.before args s = true) : w.before a' U = true := by
  simp only [vx_ot, Bool.or_eq_true] at hg
  rcases hg with hg | hg
  · exact va_tabs hg hvm h
  · exact word_at hW (good_of_word hg) h
/-- a list's words: the good ones out of the method's own list, the others by premises of their own -/
theorem vx_hat {args : Array Value} {s : State} {L B : List Cond} (h1 : ∀ w ∈ L.filter goodWord, w.before args s = true) (h2 : ∀ w ∈ L.filter (fun w => !goodWord w), w ∈ B) (h3 : ∀ w ∈ B, w.before args s = true) : ∀ w ∈ L, w.before args s = true := by
  intro w hw
  by_cases g : goodWord w = true
  · exact h1 w (List.mem_filter.mpr ⟨hw, g⟩)
  · refine h3 w (h2 w (List.mem_filter.mpr ⟨hw, ?_⟩))
    show (!goodWord w) = true
    cases hgw : goodWord w
    · rfl
    · exact absurd hgw g
theorem vx_c {args : Array Value} {s : State} {w : Cond} {B : List Cond} (h : w.before args s = true) (t : ∀ w ∈ B, w.before args s = true) : ∀ w' ∈ w :: B, w'.before args s = true := fun w' h' => (List.mem_cons.mp h').elim (fun e => by rw [e]; exact h) (t w')
theorem vx_n {args : Array Value} {s : State} : ∀ w ∈ ([] : List Cond), w.before args s = true := fun _ h => nomatch h
theorem vx_own {args : Array Value} {s : State} {L : List Cond} (h1 : ∀ w ∈ L.filter vx_no, w.before args s = true)
    (hU : (Cond.isRef (.static Bundle.tN "UNASSIGNED_STACK" Bundle.steD)).before args s = true) (hN : (Cond.isRef (.static Bundle.tN "SUPPRESSED_SENTINEL" Bundle.listD)).before args s = true)
    (lU : (Cond.laysStatic Bundle.tN "UNASSIGNED_STACK" Bundle.steD).before args s = true) (lN : (Cond.laysStatic Bundle.tN "SUPPRESSED_SENTINEL" Bundle.listD).before args s = true) : ∀ w ∈ L, w.before args s = true := by
  intro w hw
  by_cases e1 : w = .isRef (.static Bundle.tN "UNASSIGNED_STACK" Bundle.steD)
  · rw [e1]; exact hU
  · by_cases e2 : w = .isRef (.static Bundle.tN "SUPPRESSED_SENTINEL" Bundle.listD)
    · rw [e2]; exact hN
    · by_cases e3 : w = .laysStatic Bundle.tN "UNASSIGNED_STACK" Bundle.steD
      · rw [e3]; exact lU
      · by_cases e4 : w = .laysStatic Bundle.tN "SUPPRESSED_SENTINEL" Bundle.listD
        · rw [e4]; exact lN
        · exact h1 w (List.mem_filter.mpr ⟨hw, by unfold vx_no; rw [decide_eq_true e1, decide_eq_true e2, decide_eq_true e3, decide_eq_true e4]; rfl⟩)
/-- where a static field lies, its class's statics cell in H -/
def vx_L (C n d : String) (A : Nat → Prop) (U : State) (H : Heap) : Prop := ∃ (c : ClassId) (k : Class) (i : Nat) (f : Field) (a : Nat) (cell : Cell), U.vm.findClass C = some c ∧ U.fieldFound? C n d = some (c, k, i, f) ∧ f.isStatic = true ∧ k.statics = some a ∧ H[a]? = some cell ∧ cell.vm.isStatics = true ∧ cell.cls = c ∧ f.slot < cell.slots.size ∧ k.staticTypes[f.slot]? = some f.type ∧ ¬ A a
theorem vx_L.moved {C n d : String} {A : Nat → Prop} {u U : State} {H : Heap} (hvm : u.vm.Alike U.vm) (h : vx_L C n d A u H) : vx_L C n d A U H := by
  obtain ⟨c, k, i, f, a, cell, h1, h2, h3, h4, h5, h6, h7, h8, h9, h10⟩ := h
  obtain ⟨k', hi', he⟩ := State.fieldFound?_setVm hvm h2
  exact ⟨c, k', i, f, a, cell, by rw [hvm.findClass]; exact h1, hi', h3, by rw [he]; exact h4, h5, h6, h7, h8, by rw [he]; exact h9, h10⟩
theorem vx_L.kept {C n d : String} {A : Nat → Prop} {U : State} {H H1 : Heap} (h : vx_L C n d A U H) (hq : ∀ a : Nat, a < H.size → ¬ A a → H1[a]? = H[a]?) : vx_L C n d A U H1 := by
  obtain ⟨c, k, i, f, a, cell, h1, h2, h3, h4, h5, h6, h7, h8, h9, h10⟩ := h
  exact ⟨c, k, i, f, a, cell, h1, h2, h3, h4, by rw [hq a (Array.getElem?_eq_some_iff.mp h5).1 h10]; exact h5, h6, h7, h8, h9, h10⟩
theorem vx_L.narrow {C n d : String} {A B : Nat → Prop} {U : State} {H : Heap} (h : vx_L C n d A U H) (hAB : ∀ q, B q → A q) : vx_L C n d B U H := by
  obtain ⟨c, k, i, f, a, cell, h1, h2, h3, h4, h5, h6, h7, h8, h9, h10⟩ := h
  exact ⟨c, k, i, f, a, cell, h1, h2, h3, h4, h5, h6, h7, h8, h9, fun z => h10 (hAB _ z)⟩
theorem vx_L.word {C n d : String} {A : Nat → Prop} {s : State} {args : Array Value} (h : vx_L C n d A s s.heap) : (Cond.laysStatic C n d).before args s = true := by
  obtain ⟨c, k, i, f, a, cell, h1, h2, h3, h4, h5, h6, h7, h8, h9, -⟩ := h
  show (Cond.laysStatic C n d).holds args s none s [] = true
  exact Cond.laysStatic_of h1 h2 h3 h4 h5 h6 h7 h8 h9
/-- .. and what it holds: null or some reference -/
def vx_Zq (C n d : String) (A : Nat → Prop) (U : State) (H : Heap) : Prop := va_Zq C n d A U H ∧ vx_L C n d A U H
theorem vx_Zq.moved {C n d : String} {A : Nat → Prop} {u U : State} {H : Heap} (hvm : u.vm.Alike U.vm) (h : vx_Zq C n d A u H) : vx_Zq C n d A U H := ⟨va_Zq.moved hvm h.1, vx_L.moved hvm h.2⟩
theorem vx_Zq.kept {C n d : String} {A : Nat → Prop} {U : State} {H H1 : Heap} (h : vx_Zq C n d A U H) (hq : ∀ a : Nat, a < H.size → ¬ A a → H1[a]? = H[a]?) : vx_Zq C n d A U H1 := ⟨va_Zq.kept h.1 hq, vx_L.kept h.2 hq⟩
theorem vx_Zq.narrow {C n d : String} {A B : Nat → Prop} {U : State} {H : Heap} (h : vx_Zq C n d A U H) (hAB : ∀ q, B q → A q) : vx_Zq C n d B U H := ⟨va_Zq.narrow h.1 hAB, vx_L.narrow h.2 hAB⟩
theorem vx_Zqof {args : Array Value} {s : State} {C n d : String} {A : Nat → Prop} (hl : (Cond.laysStatic C n d).before args s = true) (hini : (Cond.initialized C).before args s = true) (h : (Cond.isRef (.static C n d)).before args s = true) (hA : ∀ a : Nat, a < s.heap.size → ¬ A a) : vx_Zq C n d A s s.heap := by
  refine ⟨va_Zqof hl hini h hA, ?_⟩
  obtain ⟨c, k, i, f, a, cell, h1, h2, h3, h4, h5, h6, h7, h8, h9⟩ := Cond.laysStatic_spec hl
  exact ⟨c, k, i, f, a, cell, h1, h2, h3, h4, h5, h6, h7, h8, h9, hA a (Array.getElem?_eq_some_iff.mp h5).1⟩
theorem vx_isRef {C n d : String} {v : Value} {A : Nat → Prop} {s : State} {args : Array Value} (h : va_Z C n d v A s s.heap) (hv : v.isRef = true) : (Cond.isRef (.static C n d)).before args s = true := by
  obtain ⟨cf, kf, fi, f, a, cell, h1, h2, h3, h4, h5, h6, h7, -⟩ := h
  have he : (Term.static C n d).eval args s none [] s = some v := by
    simp [Term.eval, State.fieldNamed?, h1, h2, h4, h5, h6, h7]
  simp only [Cond.before, Cond.holds, Cond.value, he]
  cases v <;> simp_all [Value.isRef]
theorem vx_isRefq {C n d : String} {A : Nat → Prop} {s : State} {args : Array Value} (h : va_Zq C n d A s s.heap) : (Cond.isRef (.static C n d)).before args s = true := by
  rcases h with h | ⟨t, h⟩
  · exact vx_isRef h rfl
  · exact vx_isRef h rfl
/-- the same frame, seen from here: as if the method were called anew in this heap -/
theorem vx_rebase {T : State} (X : Stand p l e R s m args below meth c T locs cells slots) {R' : Room} (hf : R'.frames ≤ R.frames) (hl : R'.locals ≤ R.locals) (hc : cells + R'.cells ≤ R.cells) (hs : slots + R'.slots ≤ R.slots) :
    Stand p l e R' ((T.setVm s.vm).setFrames (.invoking m args :: below)) m args below meth c T [] 0 0 := by
  have htop : (T.setVm s.vm).topJava?.isSome := X.here.top
  have hF : ((T.setVm s.vm).setFrames (.invoking m args :: below)).frames = .invoking m args :: below := State.frames_setFrames _ (State.cur_lt_of_top htop)
  obtain ⟨g₀, hg0⟩ := Option.isSome_iff_exists.mp htop
  obtain ⟨r, hr⟩ := State.topJava?_eq_some.mp hg0
  have hl9 : e.platform.stackLimits (T.setVm s.vm).me = e.platform.stackLimits s.me := X.limits
  have hb9 : (T.setVm s.vm).me.stackBytes = s.me.stackBytes := X.bytes
  refine ⟨X.admits, X.cas, X.clock, hF, ?_, X.hears, X.method, X.code, X.here, X.tail, X.warmed, ?_, ?_, ?_⟩
  · have h := X.room
    have hU : ((T.setVm s.vm).setFrames (.invoking m args :: below)).localsInUse = s.localsInUse := by
      rw [State.localsInUse_invoking hF (meth := meth) (c := c) X.method X.code, State.localsInUse_invoking X.frames X.method X.code]
    simp only [State.hasRoom, Bool.and_eq_true, decide_eq_true_eq] at h ⊢
    obtain ⟨⟨⟨⟨h1, h2, h3, h4, h5, h6⟩, h7⟩, h8⟩, h9⟩ := h
    rw [X.frames, List.length_cons] at h2 h3
    have q1 := X.heapSize
    have q2 := X.used
    simp only [hF, hU, List.length_cons, State.stackLimits_setFrames, State.stackBytes_setFrames, hl9, hb9]
    refine ⟨⟨⟨⟨by omega, by omega, by omega, by omega, by omega, h6⟩, ?_⟩, ?_⟩, X.book⟩
    · show T.heap.size + R'.cells ≤ e.platform.maxCells
      omega
    · show T.slotsUsed + R'.slots ≤ e.platform.maxSlots
      omega
  · rw [State.stackLimits_setFrames]; rfl
  · rw [State.stackBytes_setFrames]; rfl
  · refine ⟨?_, Nat.le_refl _, Nat.le_refl _, ?_, ?_, fun a c9 h9 => ⟨c9, h9, rfl, rfl, fun _ _ => rfl⟩⟩
    · obtain ⟨t, ht, -⟩ := State.frames_cons hr
      show T.setVm s.vm = { ((T.setVm s.vm).setFrames (.invoking m args :: below)).setFrames (T.setVm s.vm).frames with heap := T.heap, slotsUsed := T.slotsUsed }
      rw [State.setFrames_setFrames, State.setFrames_self ht]
      rfl
    · show T.slotsUsed = T.slotsUsed + ((T.heap.toList.drop T.heap.size).map (·.slots.size)).sum
      rw [List.drop_eq_nil_of_le (Nat.le_of_eq Array.length_toList)]
      rfl
    · show ((T.heap.toList.drop T.heap.size).map (·.slots.size)).sum ≤ 0
      rw [List.drop_eq_nil_of_le (Nat.le_of_eq Array.length_toList)]
      exact Nat.le_refl _
/-- 'throw new E()': new; dup; invokespecial; athrow -/
theorem vx_throw0 {cc : ByteArray} {pc : Nat} (hexec : p.tables.exec = Jvm.exec) (hb : c.code = cc) (hl : l.stackTraces = false) {own cls : String} {names : List String} {ik ic mc ms : Nat} {A : Nat → Prop}
    (hown : s.vm.findClass own = some m.cls) (hcls : Bundle.fit cls = true) (hnames : ∀ n ∈ names, Bundle.fit n = true)
    (hk : (Cond.classLink own ik cls).before args s = true) (hini : (Cond.initialized cls).before args s = true) (hat : ∀ w ∈ vx_at0 own ic cls names, w.before args s = true)
    (hgood : ∀ w ∈ Cond.classLink own ik cls :: Cond.initialized cls :: vx_at0 own ic cls names, vx_ot w = true)
    (hU : vx_Zq Bundle.tN "UNASSIGNED_STACK" Bundle.steD A s s.heap) (hN : vx_Zq Bundle.tN "SUPPRESSED_SENTINEL" Bundle.listD A s s.heap) (hS : va_S A s.heap H locs) (hsize : ls.size = c.maxLocals)
    (d0 : decode cc pc = .ok (.new ik, 3)) (d3 : decode cc (pc + 3) = .ok (.dup, 1)) (d4 : decode cc (pc + 4) = .ok (.invokespecial ic, 3)) (d7 : decode cc (pc + 7) = .ok (.athrow, 1))
    (hout : ∀ x ∈ c.exceptionTable.toList, covers x (pc + 7) = false)
    (hRframes : names.length + 3 < R.frames) (hRlocals : (rest.map fun v => v.category).sum + (13 * (names.length + 1) + 42) ≤ R.locals) (hRcells : cells + 1 ≤ R.cells) (hRslots : slots + 6 ≤ R.slots) (hlocks : meth.locks = false)
    (hx : ∀ t : State, s.vm.Alike t.vm → H.size ≤ t.heap.size → (∀ q : Nat, q < H.size → t.heap[q]? = H[q]?) → XC cls s t)
    (hf : ∀ z ∈ locs, free z.base) (hc : cells + 1 ≤ mc) (hs : slots + 6 ≤ ms) :
    W p l e R s m args below meth c H locs cells slots (vx_MQ below Qc XC args s mc ms free) (F0 m pc ls rest) := by
  intro T hT X
  have htr : e.platform.stackTraces = false := (show e.platform.stackTraces = l.stackTraces by rw [X.admits.platform]).trans hl
  have Y := vx_rebase X (R' := { frames := R.frames, locals := R.locals, cells := 1, slots := 6 }) (Nat.le_refl _) (Nat.le_refl _) hRcells hRslots
  obtain ⟨s', hA⟩ : ∃ z, z = (T.setVm s.vm).setFrames (.invoking m args :: below) := ⟨_, rfl⟩
  rw [← hA] at Y
  have hvm : s'.vm = s.vm := by rw [hA]; rfl
  have hhp : s'.heap = H := by rw [hA]; exact hT
  have hW0 : s.WarmedH s'.vm := by rw [hvm]; exact State.WarmedH.refl s
  have hat' : ∀ w ∈ vx_at0 own ic cls names, w.before args s' = true := fun w hw => vx_ot_at hW0 hvm.symm (hgood w (List.mem_cons_of_mem _ (List.mem_cons_of_mem _ hw))) (hat w hw)
  have hk' : (Cond.classLink own ik cls).before args s' = true := vx_ot_at hW0 hvm.symm (hgood _ List.mem_cons_self) hk
  have hini' : (Cond.initialized cls).before args s' = true := vx_ot_at hW0 hvm.symm (hgood _ (List.mem_cons_of_mem _ List.mem_cons_self)) hini
  have hU' : vx_Zq Bundle.tN "UNASSIGNED_STACK" Bundle.steD A s' s'.heap := by rw [hhp]; exact vx_Zq.moved hW0.alike (hU.kept hS.2.1)
  have hN' : vx_Zq Bundle.tN "SUPPRESSED_SENTINEL" Bundle.listD A s' s'.heap := by rw [hhp]; exact vx_Zq.moved hW0.alike (hN.kept hS.2.1)
  have h : ∀ w ∈ Bundle.ownAtoms0 own ic cls names, w.before args s' = true := vx_own hat' (vx_isRefq hU'.1) (vx_isRefq hN'.1) hU'.2.word hN'.2.word
  have hown' : s'.vm.findClass own = some m.cls := by rw [hvm]; exact hown
  have hins : (Cond.instantiable cls 6).before args s' = true := h _ (by simp [Bundle.ownAtoms0])
  obtain ⟨vm₁, cX, kX, hfX, hkX, -, -, X₁, st1⟩ := Y.newCold hexec (own := own) (C := cls) (index := ik) (n := 6) hown' hk' hins hini'
    (g := F0 m pc ls rest) rfl (by rw [hb]; exact d0) (Nat.le_refl _) (Nat.le_refl _)
  generalize hT1 : (T.setVm vm₁).pushCell { cls := cX, slots := kX.instanceTypes.map defaultValue, vm := .none } = T1 at X₁ st1
  have hcat : (Value.ref T.heap.size).category = 1 := rfl
  have hcellA : T1.heap[T.heap.size]? = some (freshCell cX kX) := by rw [← hT1]; exact State.heap_pushCell_size _ _
  have d3' : decode c.code (pc + 3) = .ok (.dup, 1) := by rw [hb]; exact d3
  obtain ⟨U, hsteps, hrun, hend, hW, hsame, ce, hce, hO⟩ := X₁.ctorThrow0 hexec htr (own := own) (cls := cls) (names := names) (ic := ic) hown' hcls hnames h (fun x hx => nomatch hx) hfX hkX hcellA (by rw [hhp, hT]; exact Nat.le_refl _)
    (g := { method := m, pc := pc + 4, locals := ls, stack := .ref T.heap.size :: .ref T.heap.size :: rest, locked := none }) rfl hsize rfl rfl (rest := rest) rfl
    (by rw [hb]; exact d4) (by rw [hb]; exact d7) hout hRframes (by simp only [List.map_cons, List.sum_cons, hcat]; omega) hlocks
  obtain ⟨f1, f2⟩ := vx_frame hsame
  rw [hhp] at f1 f2
  have hWs : s.WarmedH U.vm := State.WarmedH.trans hW0 hW
  have hcl : s.vm.findClass cls = some ce.cls := by
    have h9 := hO.cls
    rw [hvm] at h9
    exact h9
  have hall : s.sameButNew ({ U with vm := s.vm } : State) locs mc ms := by
    subst hA
    obtain ⟨e1, e2⟩ := hsame
    rw [State.setFrames_setFrames] at e1
    have h2 : (T.setVm s.vm).sameButNew ({ U with vm := s.vm } : State) [] (0 + 1) (0 + 6) := ⟨e1, e2⟩
    have h3 := X.same.trans h2
    rw [List.append_nil] at h3
    exact h3.mono hc hs
  refine ⟨U, ?_, .threw T.heap.size, hrun, hend, Or.inr ⟨T.heap.size, rfl, cls, ce, locs, hx U hWs.alike f1 (fun q hq => f2 q hq (fun z hz => nomatch hz)), hce, hO.vm, hcl, hWs, hall, hf⟩⟩
  refine st1 _ ?_
  show Steps p.tables e below (T1.setTop { method := m, pc := pc + 3, locals := ls, stack := .ref T.heap.size :: rest, locked := none }) _
  jvm_step X₁.here [X₁.here.top, hexec, d3', Value.category]
  exact hsteps
/-- 'throw new E("text")': new; dup; ldc; invokespecial; athrow -/
theorem vx_throwS {cc : ByteArray} {pc : Nat} (hexec : p.tables.exec = Jvm.exec) (hb : c.code = cc) (hl : l.stackTraces = false) {own cls text : String} {names : List String} {ik is ic mc ms sa : Nat} {A : Nat → Prop}
    (hown : s.vm.findClass own = some m.cls) (hcls : Bundle.fit cls = true) (hnames : ∀ n ∈ names, Bundle.fit n = true)
    (hk : (Cond.classLink own ik cls).before args s = true) (hini : (Cond.initialized cls).before args s = true) (hstr : vk_R own is text sa s) (hat : ∀ w ∈ vx_atS own ic cls names, w.before args s = true)
    (hgood : ∀ w ∈ Cond.classLink own ik cls :: Cond.initialized cls :: vx_atS own ic cls names, vx_ot w = true)
    (hU : vx_Zq Bundle.tN "UNASSIGNED_STACK" Bundle.steD A s s.heap) (hN : vx_Zq Bundle.tN "SUPPRESSED_SENTINEL" Bundle.listD A s s.heap) (hS : va_S A s.heap H locs) (hsize : ls.size = c.maxLocals)
    (d0 : decode cc pc = .ok (.new ik, 3)) (d3 : decode cc (pc + 3) = .ok (.dup, 1)) (d4 : decode cc (pc + 4) = .ok (.ldc is, 2)) (d6 : decode cc (pc + 6) = .ok (.invokespecial ic, 3)) (d9 : decode cc (pc + 9) = .ok (.athrow, 1))
    (hout : ∀ x ∈ c.exceptionTable.toList, covers x (pc + 9) = false)
    (hRframes : names.length + 3 < R.frames) (hRlocals : (rest.map fun v => v.category).sum + (13 * (names.length + 1) + 43) ≤ R.locals) (hRcells : cells + 1 ≤ R.cells) (hRslots : slots + 6 ≤ R.slots) (hlocks : meth.locks = false)
    (hx : ∀ t : State, s.vm.Alike t.vm → H.size ≤ t.heap.size → (∀ q : Nat, q < H.size → t.heap[q]? = H[q]?) → XC cls s t)
    (hf : ∀ z ∈ locs, free z.base) (hc : cells + 1 ≤ mc) (hs : slots + 6 ≤ ms) :
    W p l e R s m args below meth c H locs cells slots (vx_MQ below Qc XC args s mc ms free) (F0 m pc ls rest) := by
  intro T hT X
  have htr : e.platform.stackTraces = false := (show e.platform.stackTraces = l.stackTraces by rw [X.admits.platform]).trans hl
  have Y := vx_rebase X (R' := { frames := R.frames, locals := R.locals, cells := 1, slots := 6 }) (Nat.le_refl _) (Nat.le_refl _) hRcells hRslots
  obtain ⟨s', hA⟩ : ∃ z, z = (T.setVm s.vm).setFrames (.invoking m args :: below) := ⟨_, rfl⟩
  rw [← hA] at Y
  have hvm : s'.vm = s.vm := by rw [hA]; rfl
  have hhp : s'.heap = H := by rw [hA]; exact hT
  have hW0 : s.WarmedH s'.vm := by rw [hvm]; exact State.WarmedH.refl s
  have hat' : ∀ w ∈ vx_atS own ic cls names, w.before args s' = true := fun w hw => vx_ot_at hW0 hvm.symm (hgood w (List.mem_cons_of_mem _ (List.mem_cons_of_mem _ hw))) (hat w hw)
  have hk' : (Cond.classLink own ik cls).before args s' = true := vx_ot_at hW0 hvm.symm (hgood _ List.mem_cons_self) hk
  have hini' : (Cond.initialized cls).before args s' = true := vx_ot_at hW0 hvm.symm (hgood _ (List.mem_cons_of_mem _ List.mem_cons_self)) hini
  have hU' : vx_Zq Bundle.tN "UNASSIGNED_STACK" Bundle.steD A s' s'.heap := by rw [hhp]; exact vx_Zq.moved hW0.alike (hU.kept hS.2.1)
  have hN' : vx_Zq Bundle.tN "SUPPRESSED_SENTINEL" Bundle.listD A s' s'.heap := by rw [hhp]; exact vx_Zq.moved hW0.alike (hN.kept hS.2.1)
  have h : ∀ w ∈ Bundle.ownAtoms own ic cls names, w.before args s' = true := vx_own hat' (vx_isRefq hU'.1) (vx_isRefq hN'.1) hU'.2.word hN'.2.word
  have hown' : s'.vm.findClass own = some m.cls := by rw [hvm]; exact hown
  have hins : (Cond.instantiable cls 6).before args s' = true := h _ (by simp [Bundle.ownAtoms])
  obtain ⟨vm₁, cX, kX, hfX, hkX, -, -, X₁, st1⟩ := Y.newCold hexec (own := own) (C := cls) (index := ik) (n := 6) hown' hk' hins hini'
    (g := F0 m pc ls rest) rfl (by rw [hb]; exact d0) (Nat.le_refl _) (Nat.le_refl _)
  generalize hT1 : (T.setVm vm₁).pushCell { cls := cX, slots := kX.instanceTypes.map defaultValue, vm := .none } = T1 at X₁ st1
  have hcat : (Value.ref T.heap.size).category = 1 := rfl
  have hcellA : T1.heap[T.heap.size]? = some (freshCell cX kX) := by rw [← hT1]; exact State.heap_pushCell_size _ _
  have d3' : decode c.code (pc + 3) = .ok (.dup, 1) := by rw [hb]; exact d3
  have d4' : decode c.code (pc + 4) = .ok (.ldc is, 2) := by rw [hb]; exact d4
  have hstr' : vk_R own is text sa s' := vk_R.warm hW0 hstr
  obtain ⟨U, hsteps, hrun, hend, hW, hsame, ce, hce, hO⟩ := X₁.ctorThrowS hexec htr (own := own) (cls := cls) (names := names) (ic := ic) hown' hcls hnames h (fun x hx => nomatch hx) hfX hkX hcellA (by rw [hhp, hT]; exact Nat.le_refl _) (msg := .ref sa) rfl
    (g := { method := m, pc := pc + 6, locals := ls, stack := .ref sa :: .ref T.heap.size :: .ref T.heap.size :: rest, locked := none }) rfl hsize rfl rfl (rest := rest) rfl
    (by rw [hb]; exact d6) (by rw [hb]; exact d9) hout hRframes (by simp only [List.map_cons, List.sum_cons, hcat]; omega) hlocks
  obtain ⟨f1, f2⟩ := vx_frame hsame
  rw [hhp] at f1 f2
  have hWs : s.WarmedH U.vm := State.WarmedH.trans hW0 hW
  have hcl : s.vm.findClass cls = some ce.cls := by
    have h9 := hO.cls
    rw [hvm] at h9
    exact h9
  have hall : s.sameButNew ({ U with vm := s.vm } : State) locs mc ms := by
    subst hA
    obtain ⟨e1, e2⟩ := hsame
    rw [State.setFrames_setFrames] at e1
    have h2 : (T.setVm s.vm).sameButNew ({ U with vm := s.vm } : State) [] (0 + 1) (0 + 6) := ⟨e1, e2⟩
    have h3 := X.same.trans h2
    rw [List.append_nil] at h3
    exact h3.mono hc hs
  refine ⟨U, ?_, .threw T.heap.size, hrun, hend, Or.inr ⟨T.heap.size, rfl, cls, ce, locs, hx U hWs.alike f1 (fun q hq => f2 q hq (fun z hz => nomatch hz)), hce, hO.vm, hcl, hWs, hall, hf⟩⟩
  refine st1 _ ?_
  show Steps p.tables e below (T1.setTop { method := m, pc := pc + 3, locals := ls, stack := .ref T.heap.size :: rest, locked := none }) _
  jvm_step X₁.here [X₁.here.top, hexec, d3', Value.category]
  exact X₁.ldcString hexec (own := own) (text := text) (index := is) (a := sa) hown' hstr'.1 hstr'.2
    (g := { method := m, pc := pc + 4, locals := ls, stack := .ref T.heap.size :: .ref T.heap.size :: rest, locked := none }) rfl d4' _ hsteps
/-- 'throw new E("text")', the text by a wide index -/
theorem vx_throwSW {cc : ByteArray} {pc : Nat} (hexec : p.tables.exec = Jvm.exec) (hb : c.code = cc) (hl : l.stackTraces = false) {own cls text : String} {names : List String} {ik is ic mc ms sa : Nat} {A : Nat → Prop}
    (hown : s.vm.findClass own = some m.cls) (hcls : Bundle.fit cls = true) (hnames : ∀ n ∈ names, Bundle.fit n = true)
    (hk : (Cond.classLink own ik cls).before args s = true) (hini : (Cond.initialized cls).before args s = true) (hstr : vk_R own is text sa s) (hat : ∀ w ∈ vx_atS own ic cls names, w.before args s = true)
    (hgood : ∀ w ∈ Cond.classLink own ik cls :: Cond.initialized cls :: vx_atS own ic cls names, vx_ot w = true)
    (hU : vx_Zq Bundle.tN "UNASSIGNED_STACK" Bundle.steD A s s.heap) (hN : vx_Zq Bundle.tN "SUPPRESSED_SENTINEL" Bundle.listD A s s.heap) (hS : va_S A s.heap H locs) (hsize : ls.size = c.maxLocals)
    (d0 : decode cc pc = .ok (.new ik, 3)) (d3 : decode cc (pc + 3) = .ok (.dup, 1)) (d4 : decode cc (pc + 4) = .ok (.ldc_w is, 3)) (d7 : decode cc (pc + 7) = .ok (.invokespecial ic, 3)) (d10 : decode cc (pc + 10) = .ok (.athrow, 1))
    (hout : ∀ x ∈ c.exceptionTable.toList, covers x (pc + 10) = false)
    (hRframes : names.length + 3 < R.frames) (hRlocals : (rest.map fun v => v.category).sum + (13 * (names.length + 1) + 43) ≤ R.locals) (hRcells : cells + 1 ≤ R.cells) (hRslots : slots + 6 ≤ R.slots) (hlocks : meth.locks = false)
    (hx : ∀ t : State, s.vm.Alike t.vm → H.size ≤ t.heap.size → (∀ q : Nat, q < H.size → t.heap[q]? = H[q]?) → XC cls s t)
    (hf : ∀ z ∈ locs, free z.base) (hc : cells + 1 ≤ mc) (hs : slots + 6 ≤ ms) :
    W p l e R s m args below meth c H locs cells slots (vx_MQ below Qc XC args s mc ms free) (F0 m pc ls rest) := by
  intro T hT X
  have htr : e.platform.stackTraces = false := (show e.platform.stackTraces = l.stackTraces by rw [X.admits.platform]).trans hl
  have Y := vx_rebase X (R' := { frames := R.frames, locals := R.locals, cells := 1, slots := 6 }) (Nat.le_refl _) (Nat.le_refl _) hRcells hRslots
  obtain ⟨s', hA⟩ : ∃ z, z = (T.setVm s.vm).setFrames (.invoking m args :: below) := ⟨_, rfl⟩
  rw [← hA] at Y
  have hvm : s'.vm = s.vm := by rw [hA]; rfl
  have hhp : s'.heap = H := by rw [hA]; exact hT
  have hW0 : s.WarmedH s'.vm := by rw [hvm]; exact State.WarmedH.refl s
  have hat' : ∀ w ∈ vx_atS own ic cls names, w.before args s' = true := fun w hw => vx_ot_at hW0 hvm.symm (hgood w (List.mem_cons_of_mem _ (List.mem_cons_of_mem _ hw))) (hat w hw)
  have hk' : (Cond.classLink own ik cls).before args s' = true := vx_ot_at hW0 hvm.symm (hgood _ List.mem_cons_self) hk
  have hini' : (Cond.initialized cls).before args s' = true := vx_ot_at hW0 hvm.symm (hgood _ (List.mem_cons_of_mem _ List.mem_cons_self)) hini
  have hU' : vx_Zq Bundle.tN "UNASSIGNED_STACK" Bundle.steD A s' s'.heap := by rw [hhp]; exact vx_Zq.moved hW0.alike (hU.kept hS.2.1)
  have hN' : vx_Zq Bundle.tN "SUPPRESSED_SENTINEL" Bundle.listD A s' s'.heap := by rw [hhp]; exact vx_Zq.moved hW0.alike (hN.kept hS.2.1)
  have h : ∀ w ∈ Bundle.ownAtoms own ic cls names, w.before args s' = true := vx_own hat' (vx_isRefq hU'.1) (vx_isRefq hN'.1) hU'.2.word hN'.2.word
  have hown' : s'.vm.findClass own = some m.cls := by rw [hvm]; exact hown
  have hins : (Cond.instantiable cls 6).before args s' = true := h _ (by simp [Bundle.ownAtoms])
  obtain ⟨vm₁, cX, kX, hfX, hkX, -, -, X₁, st1⟩ := Y.newCold hexec (own := own) (C := cls) (index := ik) (n := 6) hown' hk' hins hini'
    (g := F0 m pc ls rest) rfl (by rw [hb]; exact d0) (Nat.le_refl _) (Nat.le_refl _)
  generalize hT1 : (T.setVm vm₁).pushCell { cls := cX, slots := kX.instanceTypes.map defaultValue, vm := .none } = T1 at X₁ st1
  have hcat : (Value.ref T.heap.size).category = 1 := rfl
  have hcellA : T1.heap[T.heap.size]? = some (freshCell cX kX) := by rw [← hT1]; exact State.heap_pushCell_size _ _
  have d3' : decode c.code (pc + 3) = .ok (.dup, 1) := by rw [hb]; exact d3
  have d4' : decode c.code (pc + 4) = .ok (.ldc_w is, 3) := by rw [hb]; exact d4
  have hstr' : vk_R own is text sa s' := vk_R.warm hW0 hstr
  obtain ⟨U, hsteps, hrun, hend, hW, hsame, ce, hce, hO⟩ := X₁.ctorThrowS hexec htr (own := own) (cls := cls) (names := names) (ic := ic) hown' hcls hnames h (fun x hx => nomatch hx) hfX hkX hcellA (by rw [hhp, hT]; exact Nat.le_refl _) (msg := .ref sa) rfl
    (g := { method := m, pc := pc + 7, locals := ls, stack := .ref sa :: .ref T.heap.size :: .ref T.heap.size :: rest, locked := none }) rfl hsize rfl rfl (rest := rest) rfl
    (by rw [hb]; exact d7) (by rw [hb]; exact d10) hout hRframes (by simp only [List.map_cons, List.sum_cons, hcat]; omega) hlocks
  obtain ⟨f1, f2⟩ := vx_frame hsame
  rw [hhp] at f1 f2
  have hWs : s.WarmedH U.vm := State.WarmedH.trans hW0 hW
  have hcl : s.vm.findClass cls = some ce.cls := by
    have h9 := hO.cls
    rw [hvm] at h9
    exact h9
  have hall : s.sameButNew ({ U with vm := s.vm } : State) locs mc ms := by
    subst hA
    obtain ⟨e1, e2⟩ := hsame
    rw [State.setFrames_setFrames] at e1
    have h2 : (T.setVm s.vm).sameButNew ({ U with vm := s.vm } : State) [] (0 + 1) (0 + 6) := ⟨e1, e2⟩
    have h3 := X.same.trans h2
    rw [List.append_nil] at h3
    exact h3.mono hc hs
  refine ⟨U, ?_, .threw T.heap.size, hrun, hend, Or.inr ⟨T.heap.size, rfl, cls, ce, locs, hx U hWs.alike f1 (fun q hq => f2 q hq (fun z hz => nomatch hz)), hce, hO.vm, hcl, hWs, hall, hf⟩⟩
  refine st1 _ ?_
  show Steps p.tables e below (T1.setTop { method := m, pc := pc + 3, locals := ls, stack := .ref T.heap.size :: rest, locked := none }) _
  jvm_step X₁.here [X₁.here.top, hexec, d3', Value.category]
  exact X₁.ldcStringW hexec (own := own) (text := text) (index := is) (a := sa) hown' hstr'.1 hstr'.2
    (g := { method := m, pc := pc + 4, locals := ls, stack := .ref T.heap.size :: .ref T.heap.size :: rest, locked := none }) rfl d4' _ hsteps
end Ends
section Bodies
variable {l : Launch}
theorem vx_ofW {y : MethodName} {ws ws' : List Cond} {rm : Room} {Pc : Array Value → State → Prop} {Qc : Array Value → State → Outcome → State → Prop} {XC : String → State → State → Prop} {mc ms : Nat} {free : Addr → Prop} {cc : ByteArray} {maxL : Nat} {ret : Option FieldType}
    (hy : plainName y.cls = true) (hw : ws = Cond.code y cc maxL ret :: ws')
    (body : ∀ p e s m args below meth c s₁, BodyLoose p l y (headSpec ws rm) cc maxL ret e s m args below meth c s₁ → c.maxLocals = maxL → (∀ x ∈ c.exceptionTable.toList, False) → Pc args s →
      W p l e (headSpec ws rm).room s m args below meth c s.heap [] 0 0 (vx_MQ below Qc XC args s mc ms free) (entryFrame m args maxL)) : vx_Met l y ws rm Pc Qc XC mc ms free := by
  refine MetFree.of_bodyS (code := cc) (maxLocals := maxL) (ret := ret) hy ?_ ?_
  · intro args s m h hn
    obtain ⟨meth, c, h1, h2, h3, h4, h5, h6, -, -⟩ := Cond.code_spec hn (atoms_spec (ws := ws) h _ (by rw [hw]; exact List.mem_cons_self))
    exact ⟨meth, c, h1, h2, h3, h4, h5, h6⟩
  · intro p e s m args below meth c s₁ B hml hP _
    have hh0 : s₁.heap = s.heap := by rw [B.state]; rfl
    have ht : ∀ x ∈ c.exceptionTable.toList, False := by
      obtain ⟨meth9, c9, h1, h2, -, -, -, -, h7, -⟩ := Cond.code_spec B.named (atoms_spec (ws := ws) B.pre _ (by rw [hw]; exact List.mem_cons_self))
      cases Option.some.inj (h1.symm.trans B.method)
      cases Option.some.inj (h2.symm.trans (Stand.of_body B).code)
      intro x hx
      rw [Array.isEmpty_iff.mp h7] at hx
      cases hx
    obtain ⟨t, a1, o, b1, b2, b3⟩ := body p e s m args below meth c s₁ B hml ht hP s₁ hh0 (Stand.of_body B)
    exact ⟨t, o, a1, b1, b2, b3⟩
/-- the table of a body with handlers -/
theorem vx_table {p : Program} {x y : MethodName} {S : Spec} {cc bytes : ByteArray} {maxL maxL' : Nat} {ret ret' : Option FieldType} {e : Env} {s s₁ : State} {m : MethodId} {args : Array Value} {below : List Frame} {meth : Method} {c : Code} {hh : List (Nat × Nat × Nat × Nat)}
    (B : BodyLoose p l y S cc maxL ret e s m args below meth c s₁) (h : (Cond.codeWith y bytes maxL' ret' hh).before args s = true) : c.exceptionTable.toList = tableOf hh := by
  obtain ⟨m9, meth9, c9, hn9, h1, h2, -, -, h6, -⟩ := Cond.codeWith_spec h
  cases Option.some.inj (hn9.symm.trans B.named)
  cases Option.some.inj (h1.symm.trans B.method)
  cases Option.some.inj (h2.symm.trans (Stand.of_body B).code)
  rw [← h6, table_eq]
end Bodies
end VXA
/-! ===== END ===== -/
/-! ===== BEGIN a static call of a method with an exception table ===== -/
section VXS
variable {p : Program} {l : Launch} {e : Env} {R : Room} {s : State} {m : MethodId} {args : Array Value} {below : List Frame} {meth : Method} {c : Code} {T : State} {H : Heap} {locs : List Loc} {cells slots : Nat}
abbrev vx_CSW (R : Room) (s : State) (args : Array Value) (own : String) (index : Nat) (y : MethodName) (bytes : ByteArray) (maxL : Nat) (ret : Option FieldType) (hh : List (Nat × Nat × Nat × Nat)) (ws : List Cond) (rm : Room) (mc ms n : Nat) : Prop :=
  (rm.cells = mc ∧ rm.slots = ms ∧ rm.frames + 1 ≤ R.frames ∧ 8 + (maxL + 11) + rm.locals ≤ R.locals ∧ (∀ w ∈ ws, ∀ (a' : Array Value) (U : State), s.WarmedH U.vm → w.before a' U = true) ∧ Cond.codeWith y bytes maxL ret hh ∈ ws) ∧
  (Cond.codeWith y bytes maxL ret hh).before args s = true ∧ (Cond.initialized y.cls).before args s = true ∧ (y.cls ≠ "java/lang/invoke/MethodHandle" ∧ y.cls ≠ "java/lang/invoke/VarHandle") ∧
  (∀ sig, parseMethodDescriptor y.desc = some sig → n = sig.parameters.length) ∧ (Cond.methodLink own index y).before args s = true ∧ (Cond.static y).before args s = true
theorem vx_cwSW {own : String} {index maxL mc ms : Nat} {y : MethodName} {bytes : ByteArray} {ret : Option FieldType} {hh : List (Nat × Nat × Nat × Nat)} {Ts ws ws' : List Cond} {rm : Room} (n : Nat) (ht : ∀ w ∈ Ts, w.before args s = true) (hT : GoodIn Ts (va_wsS own index y ws)) (hw : ws = Cond.codeWith y bytes maxL ret hh :: ws') (hrc : rm.cells = mc) (hrs : rm.slots = ms)
    (hd : y.cls ≠ "java/lang/invoke/MethodHandle" ∧ y.cls ≠ "java/lang/invoke/VarHandle" ∧ (parseMethodDescriptor y.desc).map (fun d => d.parameters.length) = some n) (hR : rm.frames + 1 ≤ R.frames ∧ 8 + (maxL + 11) + rm.locals ≤ R.locals) :
    vx_CSW R s args own index y bytes maxL ret hh ws rm mc ms n := by
  have ok : ∀ w ∈ va_wsS own index y ws, w.before args s = true := fun w h => ht w (hT w h).1
  have hG : GoodIn Ts ws := fun w h => hT w (by unfold va_wsS; exact List.mem_append_right _ h)
  have hc : Cond.codeWith y bytes maxL ret hh ∈ ws := by rw [hw]; exact List.mem_cons_self
  refine ⟨⟨hrc, hrs, hR.1, hR.2, pay_in ht hG, hc⟩, ht _ (hG _ hc).1, ok _ (by simp [va_wsS]), ⟨hd.1, hd.2.1⟩, fun sig h => ?_, ok _ (by simp [va_wsS]), ok _ (by simp [va_wsS])⟩
  have h2 := hd.2.2
  rw [h] at h2
  exact (Option.some.inj h2).symm
theorem vx_callSW (X : Stand p l e R s m args below meth c T locs cells slots) (hexec : p.tables.exec = Jvm.exec) {own : String} {index : Nat} {y : MethodName} {bytes : ByteArray} {maxL : Nat} {ret : Option FieldType} {hh : List (Nat × Nat × Nat × Nat)}
    (hown : s.vm.findClass own = some m.cls) (hlink : (Cond.methodLink own index y).before args s = true) (hstat : (Cond.static y).before args s = true) (hinit : (Cond.initialized y.cls).before args s = true)
    (hcode : (Cond.codeWith y bytes maxL ret hh).before args s = true) (hy : y.cls ≠ "java/lang/invoke/MethodHandle" ∧ y.cls ≠ "java/lang/invoke/VarHandle")
    {W9 : Nat} {Pre : Pt → Array Value → Prop} {Post : Pt → Array Value → Option Value → Pt → Prop} (hK : Back l R p e below s args y 3 W9 Pre Post)
    {g : JFrame} (hg : g.method = m) (hsize : g.locals.size = c.maxLocals) {argsL rest : List Value} (hlen : ∀ sig, parseMethodDescriptor y.desc = some sig → argsL.length = sig.parameters.length)
    (hstack : g.stack = argsL.reverse ++ rest) (hW : 2 * g.monitorRoom + (rest.map fun v => v.category).sum ≤ W9) (hdg : decode c.code g.pc = .ok (.invokestatic index, 3))
    (hpre : ∀ vm₁, s.WarmedH vm₁ → Pre ⟨T.setVm vm₁, locs, cells, slots⟩ argsL.toArray) :
    ∃ (v : Option Value) (vm₁ : Vm) (B : Pt), s.WarmedH vm₁ ∧ Stand p l e R s m args below meth c B.U B.locs B.cells B.slots ∧ Post ⟨T.setVm vm₁, locs, cells, slots⟩ argsL.toArray v B ∧
      ∀ target, Steps p.tables e below (B.U.setTop { g with pc := g.pc + 3, stack := v.toList ++ rest }) target → Steps p.tables e below (T.setTop g) target := by
  obtain ⟨mk, methM, cM, hnamed, hmethM, -, -, -, -, -, -, hsigM⟩ := Cond.codeWith_spec hcode
  have hstatic : methM.isStatic = true := Cond.static_spec hnamed hmethM hstat
  obtain ⟨kP, hkP, -⟩ := className_of_methodNamed hnamed
  have hinitP : kP.init = .initialized := Cond.initialized_spec (findClass_of_methodNamed hnamed) hkP hinit
  obtain ⟨vm₁, X₁, hstep₁⟩ := X.invokestatic hexec hown hlink hnamed hmethM hstatic hkP hinitP hy (g := g) hg (argsL := argsL) (rest := rest) (hlen _ hsigM) hstack hdg
  obtain ⟨v, B, X', hpost, hsteps⟩ := hK m meth c ⟨T.setVm vm₁, locs, cells, slots⟩ { g with stack := rest } (.invokestatic index) mk argsL.toArray X₁ hg hsize hdg hW (X₁.named hnamed) (hpre vm₁ X₁.warmed)
  exact ⟨v, vm₁, B, X₁.warmed, X', hpost, fun target h => hstep₁ _ fun acts => by rw [doInvoke_state]; exact hsteps.trans h⟩
theorem vx_runSW {y : MethodName} {bytes cc : ByteArray} {maxL nL mc ms n index : Nat} {ret : Option FieldType} {hh : List (Nat × Nat × Nat × Nat)} {ws : List Cond} {rm : Room} {Pc : Array Value → State → Prop} {Qc : Array Value → State → Outcome → State → Prop} {free : Addr → Prop} {Ts : List Cond} {own : String} {As rest : List Value} {g : JFrame}
    (S : CallFix p m c cc nL s args Ts own) (hM : Met l y ws rm Pc Qc mc ms free) (cw : vx_CSW R s args own index y bytes maxL ret hh ws rm mc ms n) (hp : PreS s H Pc As)
    (hg : g.method = m) (hn : As.length = n) (hsize : g.locals.size = nL) (hstack : g.stack = As.reverse ++ rest) (hW : 2 * g.monitorRoom + (rest.map fun v => v.category).sum ≤ 8) (hdg : decode cc g.pc = .ok (.invokestatic index, 3)) (hf : cells + mc ≤ R.cells ∧ slots + ms ≤ R.slots) :
    va_Run p l e R s m args below meth c H locs cells slots mc ms g rest (Qc As.toArray) (free) := by
  obtain ⟨⟨hrc, hrs, hfr, hlo, hws, hcw⟩, hcode, hini, hy, hlen, hl, hstt⟩ := cw
  have hK : Back l R p e below s args y 3 8 (PreOf R mc ms Pc) (PostOf Qc mc ms free) := va_backW (hh := hh) (bytes := bytes) (maxL := maxL) (ret := ret) hM hp.1 hrc hrs hfr hlo hws hcw (fun a' U hW => word_at hW (Or.inl (by first | rfl | simp [Cond.onTables, Cond.keeps, Cond.steady])) hini)
  obtain ⟨hx, hb, hml, ho, -⟩ := S
  intro T hT X
  obtain ⟨v, vm₁, ⟨U', l2, c2, s2⟩, hW₁, X', ⟨g', mk, t, L, e1, e2, hq, h1, hL, h2, h3⟩, st⟩ := vx_callSW X hx (hh := hh) (bytes := bytes) (maxL := maxL) (ret := ret) ho hl hstt hini hcode hy hK hg (hsize.trans hml.symm) (argsL := As) (rest := rest) (fun sig h => hn.trans (hlen sig h)) hstack hW (by rw [hb]; exact hdg)
    (fun vm₁ hW₁ => ⟨hf.1, hf.2, hp.2 (T.setVm vm₁) hT hW₁⟩)
  dsimp only [Pt.U, Pt.locs, Pt.cells, Pt.slots] at X' e1 e2 h1 h2 h3 st
  subst h1; subst h2; subst h3
  exact ⟨v, (T.setVm vm₁).calling g' mk As.toArray, t, U', L, hT, X', hL, e1, e2, hq, st⟩
/-- not caught here, past rows that name other classes: it goes on to the caller -/
theorem vx_outP {p : Program} {l : Launch} {e : Env} {R : Room} {s : State} {m : MethodId} {args : Array Value} {below : List Frame} {meth : Method} {c : Code} {H : Heap} {locs : List Loc} {cells slots : Nat} {free : Addr → Prop} {ls : Array Slot} {rest : List Value} {Qc : Array Value → State → Outcome → State → Prop} {XC : String → State → State → Prop}
    {pc : Nat} {own E : String} {ce : Cell} {q : Addr} {mc ms : Nat} (hown : s.vm.findClass own = some m.cls) (hlocks : meth.locks = false)
    (hpass : ∀ z ∈ c.exceptionTable.toList, covers z pc = false ∨ (z.catchType ≠ 0 ∧ ∃ nm : String, (Cond.classLink own z.catchType nm).before args s = true ∧ va_Nc E nm s)) (hcell : H[q]? = some ce) (hv : ce.vm = .none) (hcl : s.vm.findClass E = some ce.cls)
    (hx : ∀ t : State, t.heap = H → s.vm.Alike t.vm → XC E s t) (hf : ∀ z ∈ locs, free z.base) (hc : cells ≤ mc) (hs : slots ≤ ms) :
    vx_W p l e R s m args below meth c H locs cells slots (vx_MQ below Qc XC args s mc ms free) (F0 m pc ls rest) q := by
  intro T hT X
  have hpl : e.platform.magicAccessors = ({} : Platform).magicAccessors := by rw [X.admits.platform]
  obtain ⟨vm', hW', X', st⟩ := X.outThrough hlocks q (g := F0 m pc ls rest) rfl rfl rfl (cell := ce) (by rw [hT]; exact hcell) (by rw [hv]; rfl)
    (by obtain ⟨k9, h9, -⟩ := Vm.findClass_spec hcl; exact ⟨k9, h9⟩) (fun z hz => by
      rcases hpass z hz with h | ⟨hz0, nm, hl1, hn1⟩
      · exact Or.inl h
      · obtain ⟨c6, hc6, hcl6⟩ := Cond.classLink_spec hown hl1 e.platform hpl
        obtain ⟨a8, b8, h1, h2, h3⟩ := hn1
        cases Option.some.inj (h1.symm.trans hcl)
        cases Option.some.inj (h2.symm.trans hc6)
        exact Or.inr ⟨hz0, _, hcl6, h3⟩)
  obtain ⟨g₀, hfr⟩ := X'.frames_eq
  have hcell9 : ((T.setVm vm').setFrames (.throwing q :: below)).heap[q]? = some ce := by
    show T.heap[q]? = some ce
    rw [hT]; exact hcell
  have hend : Ended ((T.setVm vm').setFrames (.throwing q :: below)) below (.threw q) := State.frames_setFrames _ (State.cur_lt_of_frames hfr)
  refine ⟨(T.setVm vm').setFrames (.throwing q :: below), ?_, .threw q, X'.here.running, hend, Or.inr ⟨q, rfl, E, ce, locs, hx _ hT (X'.ends _).1.alike, hcell9, hv, hcl, (X'.ends _).1, (X'.ends _).2.mono hc hs, hf⟩⟩
  rw [X.pushThrowing_eq]
  exact st
/-- a thing of a world lies in the heap -/
theorem vx_lt {D : va_G} {cl : List vw_C} {ws : va_W} {H1 : Heap} (h : va_P D cl ws H1) {k : Nat} {q : Nat × va_E} (hk : ws[k]? = some q) : q.1 < H1.size := (h k q hk).lt
end VXS
/-! ===== END ===== -/
/-! ===== BEGIN methods with a table of their own: called by a name, returning or throwing ===== -/
section VXH
/-! vx_backW, vx_callVX, vx_callSX, vx_callVW, vx_runVW, vx_runVX, vx_runSX, vx_ofWH follow the same proofs as their sisters above (Free/Laws.lean, Shelf42/LK1.lean); vx_outP calls Shelf42/NT130.lean (outThrough). -/
section
variable {l : Launch} {R : Room} {p : Program} {e : Env} {below : List Frame} {s : State} {sargs : Array Value} {y : MethodName} {len W9 : Nat}
theorem vx_backW {ws : List Cond} {rm : Room} {Pc : Array Value → State → Prop} {Qc : Array Value → State → Outcome → State → Prop} {XC : String → State → State → Prop} {mc ms : Nat} {free : Addr → Prop} {bytes : ByteArray} {maxL : Nat} {ret : Option FieldType} {hh : List (Nat × Nat × Nat × Nat)}
    (hM : vx_Met l y ws rm Pc Qc XC mc ms free) (hblind : FrameBlind Pc) (hrc : rm.cells = mc) (hrs : rm.slots = ms)
    (hframes : rm.frames + 1 ≤ R.frames) (hlocals : W9 + (maxL + 11) + rm.locals ≤ R.locals)
    (hws : ∀ w ∈ ws, ∀ a' U, s.WarmedH U.vm → w.before a' U = true) (hcode : Cond.codeWith y bytes maxL ret hh ∈ ws) (hinit : ∀ a' U, s.WarmedH U.vm → (Cond.initialized y.cls).before a' U = true) :
    vx_Back l R p e below s sargs y len W9 (PreOf R mc ms Pc) (PostOf Qc mc ms free) (vx_Post XC mc ms free) := by
  intro m meth c A g ig mk a X hg hsize hdg hW hn hp
  have h1 : (headSpec ws rm).pre.before a A.U = true := atoms_intro fun w hw => hws w hw _ _ X.warmed
  have h2 : (Cond.codeWith y bytes maxL ret hh).before a A.U = true := hws _ hcode _ _ X.warmed
  have h3 : (Cond.initialized y.cls).before a A.U = true := hinit _ _ X.warmed
  have h4 : A.cells + (headSpec ws rm).room.cells ≤ R.cells := by rw [show (headSpec ws rm).room.cells = mc from hrc]; exact hp.1
  have h5 : A.slots + (headSpec ws rm).room.slots ≤ R.slots := by rw [show (headSpec ws rm).room.slots = ms from hrs]; exact hp.2.1
  have hPc : Pc a (A.U.calling g mk a) := hblind _ _ _ _ hp.2.2
  obtain ⟨U, Ls, c0, s0⟩ := A
  dsimp only [Pt.U, Pt.locs, Pt.cells, Pt.slots] at h1 h2 h3 h4 h5 X hn hPc ⊢
  obtain ⟨m9, methY, cY, hn9, hmY, hcY, -, hlY, -⟩ := Cond.codeWith_spec h2
  cases Option.some.inj (hn9.symm.trans hn)
  obtain ⟨kY, hkY, -⟩ := className_of_methodNamed hn
  have hinitY : kY.init = .initialized := Cond.initialized_spec (findClass_of_methodNamed hn) hkY h3
  have h : At U g.method c below := by rw [hg]; exact X.here
  have hlocals9 : W9 + (maxL + 11) + (headSpec ws rm).room.locals ≤ R.locals := hlocals
  have happ : (headSpec ws rm).appliesLoose y e.platform (U.calling g mk a) = true :=
    Spec.appliesLoose_calling (g := g) h hdg hn hkY hinitY
      (X.room_calling (g := g) (R' := (headSpec ws rm).room) hsize hmY hcY hframes (by rw [hlY]; omega) h4 h5) h1
  obtain ⟨mid, hmid⟩ := h.above
  have hfr : (U.setTop g).frames = (.java g :: mid) ++ below := by rw [State.frames_setTop' g h.top, hmid]; rfl
  obtain ⟨o, s₂, hsteps, -, hend, hq⟩ := Steps.callFree hM p X.admits X.cas X.clock (acts := []) hfr happ hPc trivial
  have hq' : vx_Q Qc XC mc ms free a (U.calling g mk a) o s₂ := hq
  rw [State.frames_setTop' g h.top] at hend
  obtain ⟨g₀, hg0⟩ := Option.isSome_iff_exists.mp h.top
  obtain ⟨r, hr⟩ := State.topJava?_eq_some.mp hg0
  have hr' : (({ U with heap := s₂.heap, slotsUsed := s₂.slotsUsed } : State).setVm s₂.vm).frames = .java g₀ :: r := hr
  rcases hq' with ⟨hqc, L, hfe, hL⟩ | ⟨q, rfl, E, ce, L, hx, hce, hcv, hcl, hW₂, hsm, hL⟩
  · obtain ⟨⟨v, rfl⟩, hW₂, e2, q2, q3, q4, q5, q6⟩ := id hfe
    have e3 : s₂ = ({ (U.calling g mk a).setFrames s₂.frames with heap := s₂.heap, slotsUsed := s₂.slotsUsed } : State).setVm s₂.vm := by
      have : s₂ = ({ s₂ with vm := (U.calling g mk a).vm } : State).setVm s₂.vm := rfl
      rw [e2] at this
      exact this
    obtain ⟨c₂, i₂, len₂, hc₂, hd₂, hf₂⟩ := hend
    have hW' : U.WarmedH s₂.vm := hW₂
    have hcc : c₂ = c := by
      have h1 : s₂.code? g.method = U.code? g.method := by
        rw [State.code?_eq, State.code?_eq, hW'.alike.method?]
      exact Option.some.inj (hc₂.symm.trans (h1.trans h.code))
    subst hcc
    have hlen : len₂ = len := by rw [hdg] at hd₂; cases hd₂; rfl
    subst hlen
    have hs₂ : s₂ = (({ U with heap := s₂.heap, slotsUsed := s₂.slotsUsed } : State).setVm s₂.vm).setTop { g with pc := g.pc + len₂, stack := v.toList ++ g.stack } := by
      refine e3.trans ?_
      rw [hf₂, State.calling_eq h.top, State.setFrames_setFrames, State.setTop_of_frames _ hr', hr]
      rfl
    have hsame : U.sameButNew ({ U with heap := s₂.heap, slotsUsed := s₂.slotsUsed } : State) L mc ms := by
      refine ⟨?_, q2, q3, q4, q5, q6⟩
      obtain ⟨t, ht, -⟩ := State.frames_cons hr
      show ({ U with heap := s₂.heap, slotsUsed := s₂.slotsUsed } : State) = { U.setFrames U.frames with heap := s₂.heap, slotsUsed := s₂.slotsUsed }
      rw [State.setFrames_self ht]
    subst hg
    refine Or.inl ⟨v, ⟨(({ U with heap := s₂.heap, slotsUsed := s₂.slotsUsed } : State).setVm s₂.vm), Ls ++ L, c0 + mc, s0 + ms⟩,
      ⟨X.admits, X.cas, X.clock, X.frames, X.room, X.hears, X.method, X.code, (X.here.setHeapUsed s₂.heap s₂.slotsUsed).setVm hW'.alike, X.tail, State.WarmedH.trans X.warmed hW', X.limits, X.bytes, X.same.trans (hsame.setVm s.vm)⟩,
      ⟨g, mk, s₂, L, rfl, rfl, hqc, rfl, hL, rfl, rfl⟩, ?_⟩
    show Steps p.tables e below _ ((({ U with heap := s₂.heap, slotsUsed := s₂.slotsUsed } : State).setVm s₂.vm).setTop { g with pc := g.pc + len₂, stack := v.toList ++ g.stack })
    rw [← hs₂]
    exact hsteps
  · obtain ⟨e2, q2, q3, q4, q5, q6⟩ := id hsm
    have e3 : s₂ = ({ (U.calling g mk a).setFrames s₂.frames with heap := s₂.heap, slotsUsed := s₂.slotsUsed } : State).setVm s₂.vm := by
      have : s₂ = ({ s₂ with vm := (U.calling g mk a).vm } : State).setVm s₂.vm := rfl
      rw [e2] at this
      exact this
    have hf₂ : s₂.frames = .throwing q :: .java g :: U.frames.tail := hend
    have hW' : U.WarmedH s₂.vm := hW₂
    have hs₂ : s₂ = ((({ U with heap := s₂.heap, slotsUsed := s₂.slotsUsed } : State).setVm s₂.vm).setTop g).pushFrame (.throwing q) := by
      refine e3.trans ?_
      rw [hf₂, State.calling_eq h.top, State.setFrames_setFrames, State.pushFrame, State.frames_setTop _ hr', State.setTop_of_frames _ hr', State.setFrames_setFrames, hr]
      rfl
    have hsame : U.sameButNew ({ U with heap := s₂.heap, slotsUsed := s₂.slotsUsed } : State) L mc ms := by
      refine ⟨?_, q2, q3, q4, q5, q6⟩
      obtain ⟨t, ht, -⟩ := State.frames_cons hr
      show ({ U with heap := s₂.heap, slotsUsed := s₂.slotsUsed } : State) = { U.setFrames U.frames with heap := s₂.heap, slotsUsed := s₂.slotsUsed }
      rw [State.setFrames_self ht]
    subst hg
    refine Or.inr ⟨q, ⟨(({ U with heap := s₂.heap, slotsUsed := s₂.slotsUsed } : State).setVm s₂.vm), Ls ++ L, c0 + mc, s0 + ms⟩,
      ⟨X.admits, X.cas, X.clock, X.frames, X.room, X.hears, X.method, X.code, (X.here.setHeapUsed s₂.heap s₂.slotsUsed).setVm hW'.alike, X.tail, State.WarmedH.trans X.warmed hW', X.limits, X.bytes, X.same.trans (hsame.setVm s.vm)⟩,
      ⟨g, mk, s₂, L, E, ce, rfl, rfl, hx, hce, hcv, hcl, rfl, hL, rfl, rfl⟩, ?_⟩
    show Steps p.tables e below _ (((({ U with heap := s₂.heap, slotsUsed := s₂.slotsUsed } : State).setVm s₂.vm).setTop g).pushFrame (.throwing q))
    rw [← hs₂]
    exact hsteps
end
variable {p : Program} {l : Launch} {e : Env} {R : Room} {s : State} {m : MethodId} {args : Array Value} {below : List Frame} {meth : Method} {c : Code} {T : State} {H : Heap} {locs : List Loc} {cells slots : Nat}
theorem vx_callVX (X : Stand p l e R s m args below meth c T locs cells slots) (hexec : p.tables.exec = Jvm.exec) {own C : String} {index : Nat} {y : MethodName} {bytes : ByteArray} {maxL : Nat} {ret : Option FieldType} {hh : List (Nat × Nat × Nat × Nat)}
    (hown : s.vm.findClass own = some m.cls) (hlink : (Cond.methodLink own index y).before args s = true) (hinst : (Cond.instanceMethod y).before args s = true) (hsel : (Cond.selects C y y).before args s = true)
    (hcode : (Cond.codeWith y bytes maxL ret hh).before args s = true) (hy : y.cls ≠ "java/lang/invoke/MethodHandle" ∧ y.cls ≠ "java/lang/invoke/VarHandle")
    {W9 : Nat} {Pre : Pt → Array Value → Prop} {Post : Pt → Array Value → Option Value → Pt → Prop} {PostX : Pt → Array Value → Addr → Pt → Prop} (hK : vx_Back l R p e below s args y 3 W9 Pre Post PostX)
    {b : Addr} {cellB : Cell} (hcell : T.heap[b]? = some cellB) (hobj : cellB.vm.isStatics = false) (hcls : s.vm.findClass C = some cellB.cls)
    {g : JFrame} (hg : g.method = m) (hsize : g.locals.size = c.maxLocals) {argsL rest : List Value} (hlen : ∀ sig, parseMethodDescriptor y.desc = some sig → argsL.length = sig.parameters.length)
    (hstack : g.stack = argsL.reverse ++ .ref b :: rest) (hW : 2 * g.monitorRoom + (rest.map fun v => v.category).sum ≤ W9) (hdg : decode c.code g.pc = .ok (.invokevirtual index, 3))
    (hpre : ∀ vm₁, s.WarmedH vm₁ → Pre ⟨T.setVm vm₁, locs, cells, slots⟩ (Value.ref b :: argsL).toArray) :
    (∃ (v : Option Value) (vm₁ : Vm) (B : Pt), s.WarmedH vm₁ ∧ Stand p l e R s m args below meth c B.U B.locs B.cells B.slots ∧ Post ⟨T.setVm vm₁, locs, cells, slots⟩ (Value.ref b :: argsL).toArray v B ∧
      ∀ target, Steps p.tables e below (B.U.setTop { g with pc := g.pc + 3, stack := v.toList ++ rest }) target → Steps p.tables e below (T.setTop g) target) ∨
    (∃ (q : Addr) (vm₁ : Vm) (B : Pt), s.WarmedH vm₁ ∧ Stand p l e R s m args below meth c B.U B.locs B.cells B.slots ∧ PostX ⟨T.setVm vm₁, locs, cells, slots⟩ (Value.ref b :: argsL).toArray q B ∧
      Steps p.tables e below (T.setTop g) ((B.U.setTop { g with stack := rest }).pushFrame (.throwing q))) := by
  obtain ⟨mk, methM, hnamed, hmethM, hstM, habM⟩ := Cond.instanceMethod_spec hinst
  obtain ⟨m8, methM', cM, hn8, hmethM', -, -, -, -, -, -, hsigM⟩ := Cond.codeWith_spec hcode
  cases Option.some.inj (hn8.symm.trans hnamed)
  cases hmethM.symm.trans hmethM'
  obtain ⟨c2, r2, m2, q1, q2, q3, q4, kP, hkP, hkPi⟩ := Cond.selects_spec hsel
  cases hcls.symm.trans q1
  cases (State.methodFound?_of_named hnamed hy).symm.trans q2
  cases hnamed.symm.trans q3
  have hselP : selectMethod e.platform s.vm cellB.cls mk = .method mk := by rw [Launch.admits_selectMethod X.admits]; exact q4
  obtain ⟨vm₁, X₁, hstep₁⟩ := X.invokevirtual hexec hown hlink hnamed hmethM hstM hkP hkPi hy (a := b) (cell := cellB) hcell
    (fun z h => by rw [h] at hobj; cases hobj) hselP hmethM habM hkP hkPi (g := g) hg (argsL := argsL) (rest := rest) (hlen _ hsigM) hstack hdg
  rcases hK m meth c ⟨T.setVm vm₁, locs, cells, slots⟩ { g with stack := rest } (.invokevirtual index) mk (Value.ref b :: argsL).toArray X₁ hg hsize hdg hW (X₁.named hnamed) (hpre vm₁ X₁.warmed) with ⟨v, B, X', hpost, hsteps⟩ | ⟨q, B, X', hpost, hsteps⟩
  · exact Or.inl ⟨v, vm₁, B, X₁.warmed, X', hpost, fun target h => hstep₁ _ fun acts => by rw [doInvoke_state]; exact hsteps.trans h⟩
  · exact Or.inr ⟨q, vm₁, B, X₁.warmed, X', hpost, hstep₁ _ fun acts => by rw [doInvoke_state]; exact hsteps⟩
theorem vx_callSX (X : Stand p l e R s m args below meth c T locs cells slots) (hexec : p.tables.exec = Jvm.exec) {own : String} {index : Nat} {y : MethodName} {bytes : ByteArray} {maxL : Nat} {ret : Option FieldType} {hh : List (Nat × Nat × Nat × Nat)}
    (hown : s.vm.findClass own = some m.cls) (hlink : (Cond.methodLink own index y).before args s = true) (hstat : (Cond.static y).before args s = true) (hinit : (Cond.initialized y.cls).before args s = true)
    (hcode : (Cond.codeWith y bytes maxL ret hh).before args s = true) (hy : y.cls ≠ "java/lang/invoke/MethodHandle" ∧ y.cls ≠ "java/lang/invoke/VarHandle")
    {W9 : Nat} {Pre : Pt → Array Value → Prop} {Post : Pt → Array Value → Option Value → Pt → Prop} {PostX : Pt → Array Value → Addr → Pt → Prop} (hK : vx_Back l R p e below s args y 3 W9 Pre Post PostX)
    {g : JFrame} (hg : g.method = m) (hsize : g.locals.size = c.maxLocals) {argsL rest : List Value} (hlen : ∀ sig, parseMethodDescriptor y.desc = some sig → argsL.length = sig.parameters.length)
    (hstack : g.stack = argsL.reverse ++ rest) (hW : 2 * g.monitorRoom + (rest.map fun v => v.category).sum ≤ W9) (hdg : decode c.code g.pc = .ok (.invokestatic index, 3))
    (hpre : ∀ vm₁, s.WarmedH vm₁ → Pre ⟨T.setVm vm₁, locs, cells, slots⟩ argsL.toArray) :
    (∃ (v : Option Value) (vm₁ : Vm) (B : Pt), s.WarmedH vm₁ ∧ Stand p l e R s m args below meth c B.U B.locs B.cells B.slots ∧ Post ⟨T.setVm vm₁, locs, cells, slots⟩ argsL.toArray v B ∧
      ∀ target, Steps p.tables e below (B.U.setTop { g with pc := g.pc + 3, stack := v.toList ++ rest }) target → Steps p.tables e below (T.setTop g) target) ∨
    (∃ (q : Addr) (vm₁ : Vm) (B : Pt), s.WarmedH vm₁ ∧ Stand p l e R s m args below meth c B.U B.locs B.cells B.slots ∧ PostX ⟨T.setVm vm₁, locs, cells, slots⟩ argsL.toArray q B ∧
      Steps p.tables e below (T.setTop g) ((B.U.setTop { g with stack := rest }).pushFrame (.throwing q))) := by
  obtain ⟨mk, methM, cM, hnamed, hmethM, -, -, -, -, -, -, hsigM⟩ := Cond.codeWith_spec hcode
  have hstatic : methM.isStatic = true := Cond.static_spec hnamed hmethM hstat
  obtain ⟨kP, hkP, -⟩ := className_of_methodNamed hnamed
  have hinitP : kP.init = .initialized := Cond.initialized_spec (findClass_of_methodNamed hnamed) hkP hinit
  obtain ⟨vm₁, X₁, hstep₁⟩ := X.invokestatic hexec hown hlink hnamed hmethM hstatic hkP hinitP hy (g := g) hg (argsL := argsL) (rest := rest) (hlen _ hsigM) hstack hdg
  rcases hK m meth c ⟨T.setVm vm₁, locs, cells, slots⟩ { g with stack := rest } (.invokestatic index) mk argsL.toArray X₁ hg hsize hdg hW (X₁.named hnamed) (hpre vm₁ X₁.warmed) with ⟨v, B, X', hpost, hsteps⟩ | ⟨q, B, X', hpost, hsteps⟩
  · exact Or.inl ⟨v, vm₁, B, X₁.warmed, X', hpost, fun target h => hstep₁ _ fun acts => by rw [doInvoke_state]; exact hsteps.trans h⟩
  · exact Or.inr ⟨q, vm₁, B, X₁.warmed, X', hpost, hstep₁ _ fun acts => by rw [doInvoke_state]; exact hsteps⟩
theorem vx_callVW (X : Stand p l e R s m args below meth c T locs cells slots) (hexec : p.tables.exec = Jvm.exec) {own C : String} {index : Nat} {y : MethodName} {bytes : ByteArray} {maxL : Nat} {ret : Option FieldType} {hh : List (Nat × Nat × Nat × Nat)}
    (hown : s.vm.findClass own = some m.cls) (hlink : (Cond.methodLink own index y).before args s = true) (hinst : (Cond.instanceMethod y).before args s = true) (hsel : (Cond.selects C y y).before args s = true)
    (hcode : (Cond.codeWith y bytes maxL ret hh).before args s = true) (hy : y.cls ≠ "java/lang/invoke/MethodHandle" ∧ y.cls ≠ "java/lang/invoke/VarHandle")
    {W9 : Nat} {Pre : Pt → Array Value → Prop} {Post : Pt → Array Value → Option Value → Pt → Prop} (hK : Back l R p e below s args y 3 W9 Pre Post)
    {b : Addr} {cellB : Cell} (hcell : T.heap[b]? = some cellB) (hobj : cellB.vm.isStatics = false) (hcls : s.vm.findClass C = some cellB.cls)
    {g : JFrame} (hg : g.method = m) (hsize : g.locals.size = c.maxLocals) {argsL rest : List Value} (hlen : ∀ sig, parseMethodDescriptor y.desc = some sig → argsL.length = sig.parameters.length)
    (hstack : g.stack = argsL.reverse ++ .ref b :: rest) (hW : 2 * g.monitorRoom + (rest.map fun v => v.category).sum ≤ W9) (hdg : decode c.code g.pc = .ok (.invokevirtual index, 3))
    (hpre : ∀ vm₁, s.WarmedH vm₁ → Pre ⟨T.setVm vm₁, locs, cells, slots⟩ (Value.ref b :: argsL).toArray) :
    ∃ (v : Option Value) (vm₁ : Vm) (B : Pt), s.WarmedH vm₁ ∧ Stand p l e R s m args below meth c B.U B.locs B.cells B.slots ∧ Post ⟨T.setVm vm₁, locs, cells, slots⟩ (Value.ref b :: argsL).toArray v B ∧
      ∀ target, Steps p.tables e below (B.U.setTop { g with pc := g.pc + 3, stack := v.toList ++ rest }) target → Steps p.tables e below (T.setTop g) target := by
  obtain ⟨mk, methM, hnamed, hmethM, hstM, habM⟩ := Cond.instanceMethod_spec hinst
  obtain ⟨m8, methM', cM, hn8, hmethM', -, -, -, -, -, -, hsigM⟩ := Cond.codeWith_spec hcode
  cases Option.some.inj (hn8.symm.trans hnamed)
  cases hmethM.symm.trans hmethM'
  obtain ⟨c2, r2, m2, q1, q2, q3, q4, kP, hkP, hkPi⟩ := Cond.selects_spec hsel
  cases hcls.symm.trans q1
  cases (State.methodFound?_of_named hnamed hy).symm.trans q2
  cases hnamed.symm.trans q3
  have hselP : selectMethod e.platform s.vm cellB.cls mk = .method mk := by rw [Launch.admits_selectMethod X.admits]; exact q4
  obtain ⟨vm₁, X₁, hstep₁⟩ := X.invokevirtual hexec hown hlink hnamed hmethM hstM hkP hkPi hy (a := b) (cell := cellB) hcell
    (fun z h => by rw [h] at hobj; cases hobj) hselP hmethM habM hkP hkPi (g := g) hg (argsL := argsL) (rest := rest) (hlen _ hsigM) hstack hdg
  obtain ⟨v, B, X', hpost, hsteps⟩ := hK m meth c ⟨T.setVm vm₁, locs, cells, slots⟩ { g with stack := rest } (.invokevirtual index) mk (Value.ref b :: argsL).toArray X₁ hg hsize hdg hW (X₁.named hnamed) (hpre vm₁ X₁.warmed)
  exact ⟨v, vm₁, B, X₁.warmed, X', hpost, fun target h => hstep₁ _ fun acts => by rw [doInvoke_state]; exact hsteps.trans h⟩
abbrev vx_CVW (R : Room) (s : State) (args : Array Value) (own C : String) (index : Nat) (y : MethodName) (bytes : ByteArray) (maxL : Nat) (ret : Option FieldType) (hh : List (Nat × Nat × Nat × Nat)) (ws : List Cond) (rm : Room) (mc ms n : Nat) : Prop :=
  (rm.cells = mc ∧ rm.slots = ms ∧ rm.frames + 1 ≤ R.frames ∧ 8 + (maxL + 11) + rm.locals ≤ R.locals ∧ (∀ w ∈ ws, ∀ (a' : Array Value) (U : State), s.WarmedH U.vm → w.before a' U = true) ∧ Cond.codeWith y bytes maxL ret hh ∈ ws) ∧
  (Cond.codeWith y bytes maxL ret hh).before args s = true ∧ (Cond.initialized y.cls).before args s = true ∧ (y.cls ≠ "java/lang/invoke/MethodHandle" ∧ y.cls ≠ "java/lang/invoke/VarHandle") ∧
  (∀ sig, parseMethodDescriptor y.desc = some sig → n = sig.parameters.length) ∧ (Cond.methodLink own index y).before args s = true ∧ (Cond.instanceMethod y).before args s = true ∧ (Cond.selects C y y).before args s = true
theorem vx_cwVW {own C : String} {index maxL mc ms : Nat} {y : MethodName} {bytes : ByteArray} {ret : Option FieldType} {hh : List (Nat × Nat × Nat × Nat)} {Ts ws ws' : List Cond} {rm : Room} (n : Nat) (ht : ∀ w ∈ Ts, w.before args s = true) (hT : GoodIn Ts (wsV own index C y ws)) (hw : ws = Cond.codeWith y bytes maxL ret hh :: ws') (hrc : rm.cells = mc) (hrs : rm.slots = ms)
    (hd : y.cls = C ∧ y.cls ≠ "java/lang/invoke/MethodHandle" ∧ y.cls ≠ "java/lang/invoke/VarHandle" ∧ (parseMethodDescriptor y.desc).map (fun d => d.parameters.length) = some n) (hR : rm.frames + 1 ≤ R.frames ∧ 8 + (maxL + 11) + rm.locals ≤ R.locals) :
    vx_CVW R s args own C index y bytes maxL ret hh ws rm mc ms n := by
  obtain ⟨hC, hd⟩ := hd
  subst hC
  have ok : ∀ w ∈ wsV own index y.cls y ws, w.before args s = true := fun w h => ht w (hT w h).1
  have hG : GoodIn Ts ws := fun w h => hT w (by unfold wsV; exact List.mem_append_right _ h)
  have hc : Cond.codeWith y bytes maxL ret hh ∈ ws := by rw [hw]; exact List.mem_cons_self
  refine ⟨⟨hrc, hrs, hR.1, hR.2, pay_in ht hG, hc⟩, ht _ (hG _ hc).1, ok _ (by simp [wsV]), ⟨hd.1, hd.2.1⟩, fun sig h => ?_, ok _ (by simp [wsV]), ok _ (by simp [wsV]), ok _ (by simp [wsV])⟩
  have h2 := hd.2.2
  rw [h] at h2
  exact (Option.some.inj h2).symm
theorem vx_runVW {y : MethodName} {bytes cc : ByteArray} {maxL nL mc ms n index : Nat} {ret : Option FieldType} {hh : List (Nat × Nat × Nat × Nat)} {ws : List Cond} {rm : Room} {Pc : Array Value → State → Prop} {Qc : Array Value → State → Outcome → State → Prop} {free : Addr → Prop} {Ts : List Cond} {own C : String} {b : Addr} {As rest : List Value} {g : JFrame}
    (S : CallFix p m c cc nL s args Ts own) (hM : Met l y ws rm Pc Qc mc ms free) (cw : vx_CVW R s args own C index y bytes maxL ret hh ws rm mc ms n) (hp : PreV s H C b Pc As)
    (hg : g.method = m) (hn : As.length = n) (hsize : g.locals.size = nL) (hstack : g.stack = As.reverse ++ .ref b :: rest) (hW : 2 * g.monitorRoom + (rest.map fun v => v.category).sum ≤ 8) (hdg : decode cc g.pc = .ok (.invokevirtual index, 3)) (hf : cells + mc ≤ R.cells ∧ slots + ms ≤ R.slots) :
    va_Run p l e R s m args below meth c H locs cells slots mc ms g rest (Qc (Value.ref b :: As).toArray) free := by
  obtain ⟨⟨hrc, hrs, hfr, hlo, hws, hcw⟩, hcode, hini, hy, hlen, hl, hin, hse⟩ := cw
  have hK : Back l R p e below s args y 3 8 (PreOf R mc ms Pc) (PostOf Qc mc ms free) := va_backW (hh := hh) (bytes := bytes) (maxL := maxL) (ret := ret) hM hp.1 hrc hrs hfr hlo hws hcw (fun a' U hW => word_at hW (Or.inl (by first | rfl | simp [Cond.onTables, Cond.keeps, Cond.steady])) hini)
  obtain ⟨hx, hb, hml, ho, -⟩ := S
  obtain ⟨-, ⟨cellB, hcB, hoB, hclB⟩, hPc⟩ := hp
  intro T hT X
  obtain ⟨v, vm₁, ⟨U', l2, c2, s2⟩, hW₁, X', ⟨g', mk, t, L, e1, e2, hq, h1, hL, h2, h3⟩, st⟩ := vx_callVW X hx (C := C) (hh := hh) (bytes := bytes) (maxL := maxL) (ret := ret) ho hl hin hse hcode hy hK (by rw [hT]; exact hcB) hoB hclB hg (hsize.trans hml.symm) (argsL := As) (rest := rest) (fun sig h => hn.trans (hlen sig h)) hstack hW (by rw [hb]; exact hdg)
    (fun vm₁ hW₁ => ⟨hf.1, hf.2, hPc (T.setVm vm₁) hT hW₁⟩)
  dsimp only [Pt.U, Pt.locs, Pt.cells, Pt.slots] at X' e1 e2 h1 h2 h3 st
  subst h1; subst h2; subst h3
  exact ⟨v, (T.setVm vm₁).calling g' mk (Value.ref b :: As).toArray, t, U', L, hT, X', hL, e1, e2, hq, st⟩
section
variable {y : MethodName} {bytes cc : ByteArray} {maxL nL mc ms n index : Nat} {ret : Option FieldType} {ws : List Cond} {rm : Room} {Pc : Array Value → State → Prop} {Qc : Array Value → State → Outcome → State → Prop} {XC : String → State → State → Prop} {free : Addr → Prop} {Ts : List Cond} {own C : String} {b : Addr} {As rest : List Value} {g : JFrame}
theorem vx_runVX {hh : List (Nat × Nat × Nat × Nat)} (S : CallFix p m c cc nL s args Ts own) (hM : vx_Met l y ws rm Pc Qc XC mc ms free) (cw : vx_CVW R s args own C index y bytes maxL ret hh ws rm mc ms n) (hp : PreV s H C b Pc As)
    (hg : g.method = m) (hn : As.length = n) (hsize : g.locals.size = nL) (hstack : g.stack = As.reverse ++ .ref b :: rest) (hW : 2 * g.monitorRoom + (rest.map fun v => v.category).sum ≤ 8) (hdg : decode cc g.pc = .ok (.invokevirtual index, 3)) (hf : cells + mc ≤ R.cells ∧ slots + ms ≤ R.slots) :
    vx_Run p l e R s m args below meth c H locs cells slots mc ms g rest (Qc (Value.ref b :: As).toArray) XC free := by
  obtain ⟨⟨hrc, hrs, hfr, hlo, hws, hcw⟩, hcode, hini, hy, hlen, hl, hin, hse⟩ := cw
  have hK : vx_Back l R p e below s args y 3 8 (PreOf R mc ms Pc) (PostOf Qc mc ms free) (vx_Post XC mc ms free) := vx_backW (hh := hh) (bytes := bytes) (maxL := maxL) (ret := ret) hM hp.1 hrc hrs hfr hlo hws hcw (fun a' U hW => word_at hW (Or.inl (by first | rfl | simp [Cond.onTables, Cond.keeps, Cond.steady])) hini)
  obtain ⟨hx, hb, hml, ho, -⟩ := S
  obtain ⟨-, ⟨cellB, hcB, hoB, hclB⟩, hPc⟩ := hp
  intro T hT X
  rcases vx_callVX X hx (C := C) (hh := hh) (bytes := bytes) (maxL := maxL) (ret := ret) ho hl hin hse hcode hy hK (by rw [hT]; exact hcB) hoB hclB hg (hsize.trans hml.symm) (argsL := As) (rest := rest) (fun sig h => hn.trans (hlen sig h)) hstack hW (by rw [hb]; exact hdg)
    (fun vm₁ hW₁ => ⟨hf.1, hf.2, hPc (T.setVm vm₁) hT hW₁⟩) with ⟨v, vm₁, ⟨U', l2, c2, s2⟩, hW₁, X', ⟨g', mk, t, L, e1, e2, hq, h1, hL, h2, h3⟩, st⟩ | ⟨q, vm₁, ⟨U', l2, c2, s2⟩, hW₁, X', ⟨g', mk, t, L, E, ce, e1, e2, hq, hce, hcv, hcl, h1, hL, h2, h3⟩, st⟩
  · dsimp only [Pt.U, Pt.locs, Pt.cells, Pt.slots] at X' e1 e2 h1 h2 h3 st
    subst h1; subst h2; subst h3
    exact Or.inl ⟨v, (T.setVm vm₁).calling g' mk (Value.ref b :: As).toArray, t, U', L, hT, X', hL, e1, e2, hq, st⟩
  · dsimp only [Pt.U, Pt.locs, Pt.cells, Pt.slots] at X' e1 e2 h1 h2 h3 st hcl
    subst h1; subst h2; subst h3
    exact Or.inr ⟨q, (T.setVm vm₁).calling g' mk (Value.ref b :: As).toArray, t, U', L, E, ce, hT, X', hL, e1, e2, hq, hce, hcv, vx_cls hW₁ hcl, st⟩
theorem vx_runSX {hh : List (Nat × Nat × Nat × Nat)} (S : CallFix p m c cc nL s args Ts own) (hM : vx_Met l y ws rm Pc Qc XC mc ms free) (cw : vx_CSW R s args own index y bytes maxL ret hh ws rm mc ms n) (hp : PreS s H Pc As)
    (hg : g.method = m) (hn : As.length = n) (hsize : g.locals.size = nL) (hstack : g.stack = As.reverse ++ rest) (hW : 2 * g.monitorRoom + (rest.map fun v => v.category).sum ≤ 8) (hdg : decode cc g.pc = .ok (.invokestatic index, 3)) (hf : cells + mc ≤ R.cells ∧ slots + ms ≤ R.slots) :
    vx_Run p l e R s m args below meth c H locs cells slots mc ms g rest (Qc As.toArray) XC free := by
  obtain ⟨⟨hrc, hrs, hfr, hlo, hws, hcw⟩, hcode, hini, hy, hlen, hl, hstt⟩ := cw
  have hK : vx_Back l R p e below s args y 3 8 (PreOf R mc ms Pc) (PostOf Qc mc ms free) (vx_Post XC mc ms free) := vx_backW (hh := hh) (bytes := bytes) (maxL := maxL) (ret := ret) hM hp.1 hrc hrs hfr hlo hws hcw (fun a' U hW => word_at hW (Or.inl (by first | rfl | simp [Cond.onTables, Cond.keeps, Cond.steady])) hini)
  obtain ⟨hx, hb, hml, ho, -⟩ := S
  intro T hT X
  rcases vx_callSX X hx (hh := hh) (bytes := bytes) (maxL := maxL) (ret := ret) ho hl hstt hini hcode hy hK hg (hsize.trans hml.symm) (argsL := As) (rest := rest) (fun sig h => hn.trans (hlen sig h)) hstack hW (by rw [hb]; exact hdg)
    (fun vm₁ hW₁ => ⟨hf.1, hf.2, hp.2 (T.setVm vm₁) hT hW₁⟩) with ⟨v, vm₁, ⟨U', l2, c2, s2⟩, hW₁, X', ⟨g', mk, t, L, e1, e2, hq, h1, hL, h2, h3⟩, st⟩ | ⟨q, vm₁, ⟨U', l2, c2, s2⟩, hW₁, X', ⟨g', mk, t, L, E, ce, e1, e2, hq, hce, hcv, hcl, h1, hL, h2, h3⟩, st⟩
  · dsimp only [Pt.U, Pt.locs, Pt.cells, Pt.slots] at X' e1 e2 h1 h2 h3 st
    subst h1; subst h2; subst h3
    exact Or.inl ⟨v, (T.setVm vm₁).calling g' mk As.toArray, t, U', L, hT, X', hL, e1, e2, hq, st⟩
  · dsimp only [Pt.U, Pt.locs, Pt.cells, Pt.slots] at X' e1 e2 h1 h2 h3 st hcl
    subst h1; subst h2; subst h3
    exact Or.inr ⟨q, (T.setVm vm₁).calling g' mk As.toArray, t, U', L, E, ce, hT, X', hL, e1, e2, hq, hce, hcv, vx_cls hW₁ hcl, st⟩
end
end VXH
theorem vx_ofWH {l : Launch} {y : MethodName} {ws ws' : List Cond} {rm : Room} {Pc : Array Value → State → Prop} {Qc : Array Value → State → Outcome → State → Prop} {XC : String → State → State → Prop} {mc ms : Nat} {free : Addr → Prop} {cc : ByteArray} {maxL : Nat} {ret : Option FieldType} {hh : List (Nat × Nat × Nat × Nat)}
    (hy : plainName y.cls = true) (hw : ws = Cond.codeWith y cc maxL ret hh :: ws')
    (body : ∀ p e s m args below meth c s₁, BodyLoose p l y (headSpec ws rm) cc maxL ret e s m args below meth c s₁ → c.maxLocals = maxL → Pc args s →
      W p l e (headSpec ws rm).room s m args below meth c s.heap [] 0 0 (vx_MQ below Qc XC args s mc ms free) (entryFrame m args maxL)) : vx_Met l y ws rm Pc Qc XC mc ms free := by
  refine MetFree.of_bodyS (code := cc) (maxLocals := maxL) (ret := ret) hy ?_ ?_
  · intro args s m h hn
    obtain ⟨m9, meth, c, hn9, h1, h2, h3, h4, -, h5, h6, -⟩ := Cond.codeWith_spec (atoms_spec (ws := ws) h _ (by rw [hw]; exact List.mem_cons_self))
    cases hn.symm.trans hn9
    exact ⟨meth, c, h1, h2, h3, h4, h5, h6⟩
  · intro p e s m args below meth c s₁ B hml hP _
    have hh0 : s₁.heap = s.heap := by rw [B.state]; rfl
    obtain ⟨t, a1, o, b1, b2, b3⟩ := body p e s m args below meth c s₁ B hml hP s₁ hh0 (Stand.of_body B)
    exact ⟨t, o, a1, b1, b2, b3⟩
/-! ===== END ===== -/

/-! ===== BEGIN what the machine throws by itself, no traces kept ===== -/
section VXM
set_option maxHeartbeats 1000000 in
/-- the machine throws cls with the message text, no traces kept: from its note over the frame g to 'throwing' over the same frame (follows the proofs of Stand.vmThrowsMessage, Shelf/KitTracedVmS.lean, and Stand.throwsMessageColdBareV, StandMessageColdV.lean, without the step out of the frame) -/
theorem vx_vmAt {p : Program} {l : Launch} {e : Env} {R : Room} {s : State} {m₀ : MethodId} {args : Array Value} {below : List Frame} {meth : Method} {c : Code} {W : State} {locs : List Loc} {cells slots : Nat}
    (X : Stand p l e R s m₀ args below meth c W locs cells slots) (hexec : p.tables.exec = Jvm.exec) (htr : e.platform.stackTraces = false) {cls : String} {names : List String} {text : String}
    (hcls : Bundle.fit cls = true) (hnames : ∀ n ∈ names, Bundle.fit n = true) (hsoe : (cls == "java/lang/StackOverflowError") = false) (hoom : (cls == "java/lang/OutOfMemoryError") = false)
    (h : ∀ a ∈ Bundle.messageArmAtoms cls names, a.before args s = true)
    (hlocs : ∀ x ∈ locs, ∀ cell, s.heap[x.base]? = some cell → cell.vm.isStatics = false)
    (htext : (text == notModelled) = false) (hlimit : ¬ (stringBytes (stringToUtf16 text)).size > e.platform.arrayLengthLimit) (hheap : ¬ (stringBytes (stringToUtf16 text)).size * componentBytes .byte > e.platform.maxHeapBytes)
    {g : JFrame} (hg : g.method = m₀) (hsize : g.locals.size = c.maxLocals)
    (hRframes : names.length + 4 < R.frames) (hRlocals : 2 * g.monitorRoom + (g.stack.map fun v => v.category).sum + 10240 ≤ R.locals) (hshort : 13 * names.length + 55 ≤ 10240)
    (hRcells : cells + 3 ≤ R.cells) (hRslots : slots + ((stringBytes (stringToUtf16 text)).size + 4 + 6) ≤ R.slots) (hlocks : meth.locks = false) :
    ∃ (S : State) (q : Addr) (ce : Cell), (∀ target, Steps p.tables e below ((S.setTop g).pushFrame (.throwing q)) target → Steps p.tables e below ((W.setTop g).pushFrame (.throwNew cls (some text) none)) target) ∧
      Stand p l e R s m₀ args below meth c S locs (cells + 3) (slots + ((stringBytes (stringToUtf16 text)).size + 4 + 6)) ∧ S.heap[q]? = some ce ∧ s.vm.findClass cls = some ce.cls ∧ ce.vm = .none := by
  have howns : e.platform.frameOwnsMonitors = true := by rw [X.admits.platform]
  have hfin : e.platform.finalization = false := by rw [X.admits.platform]
  have hpl : e.platform.magicAccessors = ({} : Platform).magicAccessors := by rw [X.admits.platform]
  have a : ∀ x, x ∈ Bundle.messageArmAtoms cls names → x.holds args s none s [] = true := fun x hx => h x hx
  obtain ⟨T, Z0, L, -, Y⟩ := ThrowableC.of_atoms (args := args) howns hfin hpl (fun x hx => h x (by simp [Bundle.messageArmAtoms, hx]))
  obtain ⟨Z, M, LZ, LM, hnZ⟩ := Init0T.ofS_atoms (args := args) hpl L Y (fun x hx => h x (by simp [Bundle.messageArmAtoms, hx]))
  obtain ⟨P1, Ps, hlen, L1, hL, hP1m, hlink1, hlink⟩ := Bundle.chainS (args := args) hpl hnZ names cls hcls hnames (fun x hx => h x (by simp [Bundle.messageArmAtoms, hx]))
  obtain ⟨Zs, LZs, hn4, hfitv, hfitc⟩ := StringT.of_atoms (args := args) (fun x hx => h x (by simp [Bundle.messageArmAtoms, hx]))
  have hfound : s.vm.findClass cls = some P1.m.cls := findClass_of_methodNamed hP1m
  obtain ⟨c1, kX, hc1, hk, hord, -, -, hn6⟩ := Cond.instantiable_spec (a (.instantiable cls 6) (by simp [Bundle.messageArmAtoms]))
  cases Option.some.inj (hc1.symm.trans hfound)
  have hinit := Cond.initialized_spec hfound hk (a (.initialized cls) (by simp [Bundle.messageArmAtoms]))
  have hctor : kX.findMethod "<init>" "(Ljava/lang/String;)V" = some P1.m.idx := findMethod_of_methodNamed hP1m hk
  have hsel0 : selectMethod e.platform s.vm P1.m.cls T.fill0 = .method T.fill0 := by
    obtain ⟨c2, r2, m2, q1, q2, q3, q4, -⟩ := Cond.selects_spec (a (.selects cls Bundle.tFill0 Bundle.tFill0) (by simp [Bundle.messageArmAtoms]))
    cases Option.some.inj (q1.symm.trans hfound)
    cases Option.some.inj (q2.symm.trans (State.methodFound?_of_named Y.fill0 (by decide)))
    cases Option.some.inj (q3.symm.trans Y.fill0)
    rw [Launch.admits_selectMethod X.admits]; exact q4
  have hselF : selectMethod e.platform s.vm P1.m.cls T.fill = .method T.fill := by
    obtain ⟨c2, r2, m2, q1, q2, q3, q4, -⟩ := Cond.selects_spec (a (.selects cls Bundle.tFill Bundle.tFill) (by simp [Bundle.messageArmAtoms]))
    cases Option.some.inj (q1.symm.trans hfound)
    cases Option.some.inj (q2.symm.trans (State.methodFound?_of_named Y.fill (by decide)))
    cases Option.some.inj (q3.symm.trans Y.fill)
    rw [Launch.admits_selectMethod X.admits]; exact q4
  obtain ⟨cellS0, hcS0, hiss⟩ := Y.statics
  obtain ⟨u0, hu0⟩ := Cond.staticRefV Y.unassigned L.unassignedStatic L.statics hcS0 hiss (a (.isRef (.static Bundle.tN "UNASSIGNED_STACK" Bundle.steD)) (by simp [Bundle.messageArmAtoms]))
  obtain ⟨sen, hsen⟩ := Cond.staticRefV Y.sentinel L.sentinelStatic L.statics hcS0 hiss (a (.isRef (.static Bundle.tN "SUPPRESSED_SENTINEL" Bundle.listD)) (by simp [Bundle.messageArmAtoms]))
  obtain ⟨ci198, i198, fB, hk198, hg198, ha198, hsB, -, hnB, htB, hffB⟩ := Cond.ownField (t := .object "java/lang/Object") Y.found L.cls (by decide +kernel) (a (.fieldLink Bundle.tN 198 Bundle.tN "backtrace" "Ljava/lang/Object;") (by simp [Bundle.messageArmAtoms])) (a (.lays Bundle.tN Bundle.tN "backtrace" "Ljava/lang/Object;") (by simp [Bundle.messageArmAtoms])) e.platform hpl
  obtain ⟨cellS, hcS', heS, -, hkeep⟩ := X.same.2.2.2.2.2 T.aS cellS0 hcS0
  have hcellS : W.heap[T.aS]? = some cellS := hcS'
  have hout' : ∀ i, (⟨T.aS, i⟩ : Loc) ∉ locs := fun i hmem => by
    have := hlocs _ hmem cellS0 hcS0
    rw [hiss] at this; cases this
  have hknownS : cellS.vm ≠ .unknown := by
    rw [heS]; intro hu
    rw [show cellS0.vm = .unknown from hu] at hiss
    cases hiss
  have hvU : cellS.slots[T.fUnassigned.slot]? = some u0.v := by rw [hkeep _ (hout' _)]; exact hu0
  have hvSen : cellS.slots[T.fSentinel.slot]? = some sen.v := by rw [hkeep _ (hout' _)]; exact hsen
  obtain ⟨iM, hffM⟩ := Y.msg
  obtain ⟨tyC, dC, hdC, hdnC⟩ := Cond.laysAt hfound hk Y.cause (a (.lays cls Bundle.tN "cause" "Ljava/lang/Throwable;") (by simp [Bundle.messageArmAtoms]))
  obtain ⟨tyS, dS, hdS, hdnS⟩ := Cond.laysAt hfound hk Y.stack (a (.lays cls Bundle.tN "stackTrace" Bundle.steD) (by simp [Bundle.messageArmAtoms]))
  obtain ⟨tyP, dP, hdP, hdnP⟩ := Cond.laysAt hfound hk Y.supp (a (.lays cls Bundle.tN "suppressedExceptions" Bundle.listD) (by simp [Bundle.messageArmAtoms]))
  obtain ⟨tyM, dM, hdM, hdnM⟩ := Cond.laysAt hfound hk hffM (a (.lays cls Bundle.tN "detailMessage" "Ljava/lang/String;") (by simp [Bundle.messageArmAtoms]))
  obtain ⟨tyB, dB, hdB, hdnB⟩ := Cond.laysAt hfound hk hffB (a (.lays cls Bundle.tN "backtrace" "Ljava/lang/Object;") (by simp [Bundle.messageArmAtoms]))
  have bC := Cond.laysApart hdB hdC hdnB hdnC (by rw [hnB, Y.causeName]; decide)
  have bS := Cond.laysApart hdB hdS hdnB hdnS (by rw [hnB, Y.stackName]; decide)
  have bP := Cond.laysApart hdB hdP hdnB hdnP (by rw [hnB, Y.suppName]; decide)
  have hbk : ((preparedCellV T.toThrowableT (freshCell P1.m.cls kX) (W.heap.size + 2) u0 sen).withEntry W.cur).slots[fB.slot]? = some .null := by
    have := fresh_default (c := P1.m.cls) tyB
    rw [htB] at this
    simpa [preparedCellV, Cell.setSlot, Cell.withEntry, Array.getElem?_setIfInBounds, bC, bS, bP, bC.symm, bS.symm, bP.symm, defaultValue] using this
  have tkC := Takes.of_laid (v := .ref (W.heap.size + 2)) hk hord tyC (by rw [Y.causeType]; rfl)
  have tkS := Takes.of_laid (v := u0.v) hk hord tyS (by rw [Y.stackType]; exact fits_refV_array _ u0)
  have tkP := Takes.of_laid (v := sen.v) hk hord tyP (by rw [Y.suppType]; exact fits_refV_object _ sen)
  have tkM := Takes.of_laid (v := .ref (W.heap.size + 1)) hk hord tyM (by rw [Y.msgType]; rfl)
  have hskip : SkipFacts T e.platform s (fun u => u) u0 ((preparedCellV T.toThrowableT (freshCell P1.m.cls kX) (W.heap.size + 2) u0 sen).withEntry W.cur) := ⟨{ ci198 := ci198, i198 := i198, fBack := fB }, ⟨hk198, hg198, ha198, hsB⟩, hbk, fun _ _ => rfl⟩
  have h0 : At W g.method c below := by rw [hg]; exact X.here
  obtain ⟨hbeyond, hfreeW⟩ := X.vmMayThrow hsize (.throwNew cls (some text) none) (fun f hf => by cases hf) rfl hRlocals
  have hfr' : W.frames.length + Ps.length + 4 < (e.platform.stackLimits W.me).1 := by have := X.framesAbove hRframes; omega
  have hwd' : (stackUse (.java g :: W.frames.tail)).2 + 13 * Ps.length + 55 ≤ (e.platform.stackLimits W.me).2 := by have := X.stackAbove hsize (K := 13 * Ps.length + 55) (by omega); omega
  have hslots : W.slotsUsed + (stringBytes (stringToUtf16 text)).size + Zs.kS.instanceTypes.size + kX.instanceTypes.size ≤ e.platform.maxSlots := by
    have := X.slotsAbove hRslots
    rw [hn4, hn6]
    omega
  obtain ⟨vm', hW', st⟩ := Steps.vmThrowsMessageColdByV p (s₀ := s) (S := W) (g := g) h0 hexec T L Z LZ M LM X.warmed (t := W.cur) rfl Zs LZs P1 L1 Ps hL hlink1 hlink hsoe hoom hfound hk hinit hord hctor
    (Launch.admits_hotImplicitExceptions X.admits) hbeyond hfreeW htext hlimit hheap (X.cellsAbove hRcells) hslots (hfitv _) (hfitc _)
    (Nn := fun u => u) heapOnly_id (fun _ _ => rfl) (fun _ => rfl) (fun u x y => setCell_twice _ _ _ _) (fun _ => Nat.le_refl _) (cN := ((preparedCellV T.toThrowableT (freshCell P1.m.cls kX) (W.heap.size + 2) u0 sen).withEntry W.cur))
    hsel0 hcellS hknownS hvU tkS (fun _ hu => hu) (fun _ hu => hu) rfl rfl rfl (by simp [preparedCellV, Cell.setSlot, Cell.withEntry]) hskip (fun _ _ hA hW _ hroom _ hrest => L.nativeOff p htr hA hW hroom hrest) hselF hvSen tkC tkP tkM Y.objLocals rfl hfr' hwd'
  rw [plainBareV_eq T.toThrowableT (W.heap.size + 2) u0 sen (.ref (W.heap.size + 1)) W.cur rfl rfl] at st
  obtain ⟨-, -, w3, w4, -, -, -⟩ := withThrown_facts e.platform W Zs text P1.m.cls kX
  have X3 := ((X.pushed (bytesOf Zs.cB (stringToUtf16 text))).pushed (stringAt Zs.cS Zs.kS Zs.fv Zs.fc (stringToUtf16 text) W.heap.size)).pushed (freshCell P1.m.cls kX)
  rw [← withString_eq] at X3
  have X4 := X3.noted hW'
  have ha : (W.heap.size + 2) < ((withThrown W Zs text P1.m.cls kX).setVm vm').heap.size := by show _ < (withThrown W Zs text P1.m.cls kX).heap.size; rw [w3]; omega
  have hcell : ((withThrown W Zs text P1.m.cls kX).setVm vm').heap[(W.heap.size + 2)]? = some (freshCell P1.m.cls kX) := w4
  have X5 := ((((X4.stored hcell T.fCause.slot (.ref (W.heap.size + 2))).storedAgain ha T.fStack.slot u0.v).storedAgain ha T.fSupp.slot sen.v).storedAgain ha T.fStack.slot u0.v).storedAgain ha T.fMsg.slot (.ref (W.heap.size + 1))
  obtain ⟨g₁, hfrM⟩ := X5.frames_eq
  have hU : ((((withThrown W Zs text P1.m.cls kX).setVm vm').setCell (W.heap.size + 2) (plainBareV T.toThrowableT (freshCell P1.m.cls kX) (W.heap.size + 2) u0 sen (.ref (W.heap.size + 1)))).setTop g).pushFrame (.throwing (W.heap.size + 2)) = (((withThrown W Zs text P1.m.cls kX).setVm vm').setCell (W.heap.size + 2) (plainBareV T.toThrowableT (freshCell P1.m.cls kX) (W.heap.size + 2) u0 sen (.ref (W.heap.size + 1)))).setFrames (.throwing (W.heap.size + 2) :: .java g :: below) := by
    rw [State.pushFrame, State.frames_setTop _ hfrM, State.setTop_of_frames _ hfrM, State.setFrames_setFrames]
  have b1 : (bytesOf Zs.cB (stringToUtf16 text)).slots.size = (stringBytes (stringToUtf16 text)).size := by
    rw [(Cell.writeAll_facts _ _).2.2]; simp [bytes0]
  have b2 : (stringAt Zs.cS Zs.kS Zs.fv Zs.fc (stringToUtf16 text) W.heap.size).slots.size = 4 := by simp [string0, Cell.setSlot, hn4]
  have b3 : (freshCell P1.m.cls kX).slots.size = 6 := by simp [hn6]
  rw [b1, b2, b3] at X5
  have e9 : slots + (stringBytes (stringToUtf16 text)).size + 4 + 6 = slots + ((stringBytes (stringToUtf16 text)).size + 4 + 6) := by omega
  rw [e9] at X5
  simp only [List.append_assoc, List.cons_append, List.nil_append] at X5
  refine ⟨((withThrown W Zs text P1.m.cls kX).setVm vm').setCell (W.heap.size + 2) (plainBareV T.toThrowableT (freshCell P1.m.cls kX) (W.heap.size + 2) u0 sen (.ref (W.heap.size + 1))), W.heap.size + 2, _, fun target ht => st _ (by rw [X.tail, ← hU]; exact ht),
    X5.forget (fun y hy => ?_), heapAt_setCell_self _ ha, hfound, rfl⟩
  simp only [List.mem_cons, List.not_mem_nil, or_false] at hy
  have hge : s.heap.size ≤ W.heap.size := X.same.2.1
  rcases hy with rfl | rfl | rfl | rfl | rfl <;> exact Nat.le_trans hge (Nat.le_add_right _ 2)
set_option maxHeartbeats 1000000 in
/-- the machine throws NullPointerException, no traces kept: from its note over the frame g to 'throwing' over the same frame (follows the proof of Stand.vmThrowsNpe, Shelf42/KT2.lean; throwsNpeColdBareVAt, Shelf42/NT91.lean, called) -/
theorem vx_npeAt {p : Program} {l : Launch} {e : Env} {R : Room} {s : State} {m₀ : MethodId} {args : Array Value} {below : List Frame} {meth : Method} {c : Code} {W : State} {locs : List Loc} {cells slots : Nat}
    (X : Stand p l e R s m₀ args below meth c W locs cells slots) (hexec : p.tables.exec = Jvm.exec) (htr : e.platform.stackTraces = false) {n : Nat}
    (h : ∀ a ∈ Bundle.npeArmAtoms n, a.before args s = true)
    (hlocs : ∀ x ∈ locs, ∀ cell, s.heap[x.base]? = some cell → cell.vm.isStatics = false)
    {g : JFrame} (hg : g.method = m₀) (hsize : g.locals.size = c.maxLocals)
    (hRframes : 7 < R.frames) (hRlocals : 2 * g.monitorRoom + (g.stack.map fun v => v.category).sum + 10240 ≤ R.locals)
    (hRcells : cells + 1 ≤ R.cells) (hRslots : slots + n ≤ R.slots) (hlocks : meth.locks = false) :
    ∃ (S : State) (q : Addr) (ce : Cell), (∀ target, Steps p.tables e below ((S.setTop g).pushFrame (.throwing q)) target → Steps p.tables e below ((W.setTop g).pushFrame (.throwNew "java/lang/NullPointerException" none none)) target) ∧
      Stand p l e R s m₀ args below meth c S locs (cells + 1) (slots + n) ∧ S.heap[q]? = some ce ∧ s.vm.findClass "java/lang/NullPointerException" = some ce.cls ∧ ce.vm = .none := by
  have howns : e.platform.frameOwnsMonitors = true := by rw [X.admits.platform]
  have hfin : e.platform.finalization = false := by rw [X.admits.platform]
  have hpl : e.platform.magicAccessors = ({} : Platform).magicAccessors := by rw [X.admits.platform]
  have hpl2 : e.platform.arrayCloneIsPublic = true := by rw [X.admits.platform]
  have a' : ∀ x, x ∈ Bundle.npeArmAtoms n → x.holds args s none s [] = true := fun x hx => h x hx
  obtain ⟨T, Z, L, LZ, Y⟩ := ThrowableC.of_atoms (args := args) howns hfin hpl (fun x hx => h x (by simp [Bundle.npeArmAtoms, hx]))
  obtain ⟨N, LN, hcN, hnNF, hordN, hffS⟩ := NpeC.of_atoms (args := args) hpl hpl2 L Y (fun x hx => h x (by simp [Bundle.npeArmAtoms, hx]))
  obtain ⟨P1, L1, hP1m, hP1s⟩ := PassC.of_atoms (args := args) (s := s) hpl (X := Bundle.nN) (Y := Bundle.rN) (by decide) (by decide) LibCode.NullPointerException.Init0.at_0 LibCode.NullPointerException.Init0.at_1 LibCode.NullPointerException.Init0.at_4 (fun x hx => h x (by simp [Bundle.npeArmAtoms, hx]))
  obtain ⟨PR, LR, hPRm, hPRs⟩ := PassC.of_atoms (args := args) (s := s) hpl (X := Bundle.rN) (Y := Bundle.eN) (by decide) (by decide) LibCode.RuntimeException.Init0.at_0 LibCode.RuntimeException.Init0.at_1 LibCode.RuntimeException.Init0.at_4 (fun x hx => h x (by simp [Bundle.npeArmAtoms, hx]))
  obtain ⟨PE, LEx, hPEm, hPEs⟩ := PassC.of_atoms (args := args) (s := s) hpl (X := Bundle.eN) (Y := Bundle.tN) (by decide) (by decide) LibCode.Exception.Init0.at_0 LibCode.Exception.Init0.at_1 LibCode.Exception.Init0.at_4 (fun x hx => h x (by simp [Bundle.npeArmAtoms, hx]))
  have hfound : s.vm.findClass Bundle.nN = some P1.m.cls := findClass_of_methodNamed hP1m
  have ecls : N.cN = P1.m.cls := Option.some.inj (hcN.symm.trans hfound)
  have hk : s.vm.classes[P1.m.cls]? = some N.kN := by rw [← ecls]; exact LN.cls
  have hinit := Cond.initialized_spec hfound hk (a' (.initialized Bundle.nN) (by simp [Bundle.npeArmAtoms]))
  have hctor : N.kN.findMethod "<init>" "()V" = some P1.m.idx := findMethod_of_methodNamed hP1m hk
  obtain ⟨c1, k1, hc1, hk1, -, -, -, hn⟩ := Cond.instantiable_spec (a' (.instantiable Bundle.nN n) (by simp [Bundle.npeArmAtoms]))
  cases Option.some.inj (hc1.symm.trans hfound)
  cases Option.some.inj (hk1.symm.trans hk)
  have hfsz : (freshCell P1.m.cls N.kN).slots.size = n := by simp [hn]
  have hlink1 : P1.sup = PR.m := Option.some.inj (hP1s.symm.trans hPRm)
  have hlinkR : PR.sup = PE.m := Option.some.inj (hPRs.symm.trans hPEm)
  have hlinkE : PE.sup = Z.m T.toThrowableT := Option.some.inj (hPEs.symm.trans Y.init0)
  have hLs : ∀ P, P ∈ [PR, PE] → P.Links0 e.platform s := fun P hP => by
    simp only [List.mem_cons, List.not_mem_nil, or_false] at hP
    rcases hP with rfl | rfl
    · exact LR
    · exact LEx
  have hsel0 : selectMethod e.platform s.vm P1.m.cls T.fill0 = .method T.fill0 := by
    obtain ⟨c2, r2, m2, q1, q2, q3, q4, -⟩ := Cond.selects_spec (a' (.selects Bundle.nN Bundle.tFill0 Bundle.tFill0) (by simp [Bundle.npeArmAtoms]))
    cases Option.some.inj (q1.symm.trans hfound)
    cases Option.some.inj (q2.symm.trans (State.methodFound?_of_named Y.fill0 (by decide)))
    cases Option.some.inj (q3.symm.trans Y.fill0)
    rw [Launch.admits_selectMethod X.admits]; exact q4
  have hselF : selectMethod e.platform s.vm P1.m.cls T.fill = .method N.fill := by
    obtain ⟨c2, r2, m2, q1, q2, q3, q4, -⟩ := Cond.selects_spec (a' (.selects Bundle.nN Bundle.tFill Bundle.nFill) (by simp [Bundle.npeArmAtoms]))
    cases Option.some.inj (q1.symm.trans hfound)
    cases Option.some.inj (q2.symm.trans (State.methodFound?_of_named Y.fill (by decide)))
    cases Option.some.inj (q3.symm.trans hnNF)
    rw [Launch.admits_selectMethod X.admits]; exact q4
  obtain ⟨cellS0, hcS0, hiss⟩ := Y.statics
  obtain ⟨u0, hu0⟩ := Cond.staticRefV Y.unassigned L.unassignedStatic L.statics hcS0 hiss (a' (.isRef (.static Bundle.tN "UNASSIGNED_STACK" Bundle.steD)) (by simp [Bundle.npeArmAtoms]))
  obtain ⟨sen, hsen⟩ := Cond.staticRefV Y.sentinel L.sentinelStatic L.statics hcS0 hiss (a' (.isRef (.static Bundle.tN "SUPPRESSED_SENTINEL" Bundle.listD)) (by simp [Bundle.npeArmAtoms]))
  obtain ⟨ci198, i198, fB, hk198, hg198, ha198, hsB, -, hnB, htB, hffB⟩ := Cond.ownField (t := .object "java/lang/Object") Y.found L.cls (by decide +kernel) (a' (.fieldLink Bundle.tN 198 Bundle.tN "backtrace" Bundle.objD) (by simp [Bundle.npeArmAtoms])) (a' (.lays Bundle.tN Bundle.tN "backtrace" Bundle.objD) (by simp [Bundle.npeArmAtoms])) e.platform hpl
  obtain ⟨cellS, hcS', heS, -, hkeep⟩ := X.same.2.2.2.2.2 T.aS cellS0 hcS0
  have hcellS : W.heap[T.aS]? = some cellS := hcS'
  have hout' : ∀ i, (⟨T.aS, i⟩ : Loc) ∉ locs := fun i hmem => by
    have := hlocs _ hmem cellS0 hcS0
    rw [hiss] at this; cases this
  have hknownS : cellS.vm ≠ .unknown := by
    rw [heS]; intro hu
    rw [show cellS0.vm = .unknown from hu] at hiss
    cases hiss
  have hvU : cellS.slots[T.fUnassigned.slot]? = some u0.v := by rw [hkeep _ (hout' _)]; exact hu0
  have hvSen : cellS.slots[T.fSentinel.slot]? = some sen.v := by rw [hkeep _ (hout' _)]; exact hsen
  obtain ⟨tyC, dC, hdC, hdnC⟩ := Cond.laysAt hfound hk Y.cause (a' (.lays Bundle.nN Bundle.tN "cause" "Ljava/lang/Throwable;") (by simp [Bundle.npeArmAtoms]))
  obtain ⟨tyS, dS, hdS, hdnS⟩ := Cond.laysAt hfound hk Y.stack (a' (.lays Bundle.nN Bundle.tN "stackTrace" Bundle.steD) (by simp [Bundle.npeArmAtoms]))
  obtain ⟨tyP, dP, hdP, hdnP⟩ := Cond.laysAt hfound hk Y.supp (a' (.lays Bundle.nN Bundle.tN "suppressedExceptions" Bundle.listD) (by simp [Bundle.npeArmAtoms]))
  obtain ⟨tyX, dX, hdX, hdnX⟩ := Cond.laysAt hfound hk hffS (a' (.lays Bundle.nN Bundle.nN "extendedMessageState" "I") (by simp [Bundle.npeArmAtoms, Bundle.npeAtoms]))
  obtain ⟨hnX, htX⟩ := State.fieldFound?_type hffS (t := .int) (by decide +kernel)
  have xC := Cond.laysApart hdC hdX hdnC hdnX (by rw [hnX, Y.causeName]; decide)
  have xS := Cond.laysApart hdS hdX hdnS hdnX (by rw [hnX, Y.stackName]; decide)
  have xP := Cond.laysApart hdP hdX hdnP hdnX (by rw [hnX, Y.suppName]; decide)
  have hv0 : (freshCell P1.m.cls N.kN).slots[N.fState.slot]? = some (.int 0) := by
    have := fresh_default (c := P1.m.cls) tyX
    rw [htX] at this; exact this
  obtain ⟨tyB, dB, hdB, hdnB⟩ := Cond.laysAt hfound hk hffB (a' (.lays Bundle.nN Bundle.tN "backtrace" Bundle.objD) (by simp [Bundle.npeArmAtoms]))
  have bC := Cond.laysApart hdB hdC hdnB hdnC (by rw [hnB, Y.causeName]; decide)
  have bS := Cond.laysApart hdB hdS hdnB hdnS (by rw [hnB, Y.stackName]; decide)
  have bP := Cond.laysApart hdB hdP hdnB hdnP (by rw [hnB, Y.suppName]; decide)
  have bX := Cond.laysApart hdB hdX hdnB hdnX (by rw [hnB, hnX]; decide)
  have hbk : ((npeCell N.toNpeT (preparedCellV T.toThrowableT (freshCell P1.m.cls N.kN) W.heap.size u0 sen) W.cur).withEntry W.cur).slots[fB.slot]? = some .null := by
    have := fresh_default (c := P1.m.cls) tyB
    rw [htB] at this
    simpa [npeCell, preparedCellV, Cell.setSlot, Cell.withEntry, Array.getElem?_setIfInBounds, bC, bS, bP, bX, bC.symm, bS.symm, bP.symm, bX.symm, defaultValue] using this
  have tkC := Takes.of_laid (v := .ref W.heap.size) hk hordN tyC (by rw [Y.causeType]; rfl)
  have tkS := Takes.of_laid (v := u0.v) hk hordN tyS (by rw [Y.stackType]; exact fits_refV_array _ u0)
  have tkP := Takes.of_laid (v := sen.v) hk hordN tyP (by rw [Y.suppType]; exact fits_refV_object _ sen)
  have tkX := Takes.of_laid (v := .int 1) hk hordN tyX (by rw [htX]; rfl)
  have hskip : SkipFacts T e.platform s (fun u => u) u0 ((npeCell N.toNpeT (preparedCellV T.toThrowableT (freshCell P1.m.cls N.kN) W.heap.size u0 sen) W.cur).withEntry W.cur) := ⟨{ ci198 := ci198, i198 := i198, fBack := fB }, ⟨hk198, hg198, ha198, hsB⟩, hbk, fun _ _ => rfl⟩
  obtain ⟨vm', X3, st, -⟩ := X.throwsNpeColdBareVAt hexec hg hsize T L Z LZ N LN P1 L1 [PR, PE] hLs hlink1 ⟨hlinkR, hlinkE, trivial⟩ hfound hk hinit hordN hctor hsel0 hselF hcellS hknownS hvU hvSen
    hv0 xC xS xP tkC tkS tkP tkX Y.objLocals hskip (fun _ _ hA hW _ hroom _ hrest => L.nativeOff p htr hA hW hroom hrest) (by simpa using hRframes) hRlocals (by simp) hRcells (by rw [hn]; exact hRslots)
  have hlt : W.heap.size < ((W.pushCell (freshCell P1.m.cls N.kN)).setVm vm').heap.size := by
    show W.heap.size < (W.pushCell (freshCell P1.m.cls N.kN)).heap.size
    rw [State.heap_size_pushCell]; omega
  rw [hfsz] at X3
  obtain ⟨g₁, hfrM⟩ := X3.frames_eq
  have hU : ((((W.pushCell (freshCell P1.m.cls N.kN)).setVm vm').setCell W.heap.size (npeBareV T.toThrowableT N.toNpeT (freshCell P1.m.cls N.kN) W.heap.size u0 sen)).setTop g).pushFrame (.throwing W.heap.size) = (((W.pushCell (freshCell P1.m.cls N.kN)).setVm vm').setCell W.heap.size (npeBareV T.toThrowableT N.toNpeT (freshCell P1.m.cls N.kN) W.heap.size u0 sen)).setFrames (.throwing W.heap.size :: .java g :: below) := by
    rw [State.pushFrame, State.frames_setTop _ hfrM, State.setTop_of_frames _ hfrM, State.setFrames_setFrames]
  refine ⟨_, W.heap.size, _, fun target ht => st.trans (by rw [← hU]; exact ht), X3.forget (fun y hy => ?_), heapAt_setCell_self _ hlt, hfound, rfl⟩
  simp only [List.mem_cons, List.not_mem_nil, or_false] at hy
  have hge : s.heap.size ≤ W.heap.size := X.same.2.1
  rcases hy with rfl | rfl | rfl | rfl | rfl <;> exact hge
/-- the words of a machine's NullPointerException, but the four that speak of the heap -/
def vx_atN (n : Nat) : List Cond := (Bundle.npeArmAtoms n).filter vx_no
/-- the words of a machine's throw with a message, but the four that speak of the heap -/
def vx_atM (X : String) (names : List String) : List Cond := (Bundle.messageArmAtoms X names).filter vx_no
section
variable {p : Program} {l : Launch} {e : Env} {R : Room} {s : State} {m : MethodId} {args : Array Value} {below : List Frame} {meth : Method} {c : Code} {H : Heap} {locs : List Loc} {cells slots : Nat}
/-- a frame seen from a rebased start, seen from the first start again -/
theorem vx_back9 {T S : State} {R' : Room} {k n : Nat} (X : Stand p l e R s m args below meth c T locs cells slots) (Y : Stand p l e R' ((T.setVm s.vm).setFrames (.invoking m args :: below)) m args below meth c T [] 0 0) (Z : Stand p l e R' ((T.setVm s.vm).setFrames (.invoking m args :: below)) m args below meth c S [] k n) :
    Stand p l e R s m args below meth c S locs (cells + k) (slots + n) := by
  have hW0 : s.WarmedH ((T.setVm s.vm).setFrames (.invoking m args :: below)).vm := State.WarmedH.refl s
  refine { admits := X.admits, cas := X.cas, clock := X.clock, frames := X.frames, room := X.room, hears := X.hears, method := X.method, code := X.code, here := Z.here, tail := Z.tail, warmed := State.WarmedH.trans hW0 Z.warmed, limits := Z.limits.trans (Y.limits.symm.trans X.limits), bytes := Z.bytes.trans (Y.bytes.symm.trans X.bytes), same := ?_ }
  obtain ⟨e1, e2⟩ := Z.same
  rw [State.setFrames_setFrames] at e1
  have h2 : (T.setVm s.vm).sameButNew (S.setVm s.vm) [] k n := ⟨e1, e2⟩
  have h3 := X.same.trans h2
  rw [List.append_nil] at h3
  exact h3
/-- from the machine's note that E is thrown here with this text -/
def vx_Note (p : Program) (l : Launch) (e : Env) (R : Room) (s : State) (m : MethodId) (args : Array Value) (below : List Frame) (meth : Method) (c : Code) (H : Heap) (locs : List Loc) (cells slots : Nat) (Q : State → Prop) (g : JFrame) (E text : String) : Prop :=
  ∀ T : State, T.heap = H → Stand p l e R s m args below meth c T locs cells slots → ∃ t, Steps p.tables e below ((T.setTop g).pushFrame (.throwNew E (some text) none)) t ∧ Q t
theorem vx_vm {pc : Nat} {ls : Array Slot} {rest : List Value} {Q : State → Prop} (hexec : p.tables.exec = Jvm.exec) (hl : l.stackTraces = false) {cls text : String} {names : List String} {nb : Nat} {A : Nat → Prop}
    (hcls : Bundle.fit cls = true) (hnames : ∀ n ∈ names, Bundle.fit n = true) (hsoe : (cls == "java/lang/StackOverflowError") = false) (hoom : (cls == "java/lang/OutOfMemoryError") = false)
    (hat : ∀ w ∈ vx_atM cls names, w.before args s = true) (hgood : ∀ w ∈ vx_atM cls names, vx_ot w = true)
    (hU : vx_Zq Bundle.tN "UNASSIGNED_STACK" Bundle.steD A s s.heap) (hN : vx_Zq Bundle.tN "SUPPRESSED_SENTINEL" Bundle.listD A s s.heap) (hS : va_S A s.heap H locs) (hsize : ls.size = c.maxLocals)
    (htext : (text == notModelled) = false) (hnb : (stringBytes (stringToUtf16 text)).size ≤ nb) (hnb1 : nb ≤ 1000)
    (hRframes : names.length + 4 < R.frames) (hRlocals : (rest.map fun v => v.category).sum + 10240 ≤ R.locals) (hshort : 13 * names.length + 55 ≤ 10240) (hRcells : cells + 3 ≤ R.cells) (hRslots : slots + (nb + 10) ≤ R.slots) (hlocks : meth.locks = false)
    (k : ∀ (H1 : Heap) (q9 : Addr) (ce : Cell), H.size ≤ H1.size → (∀ q : Nat, q < H.size → H1[q]? = H[q]?) → va_S A s.heap H1 locs → H1[q9]? = some ce → ce.vm = .none → s.vm.findClass cls = some ce.cls → vx_W p l e R s m args below meth c H1 locs (cells + 3) (slots + (nb + 10)) Q (F0 m pc ls rest) q9) :
    vx_Note p l e R s m args below meth c H locs cells slots Q (F0 m pc ls rest) cls text := by
  intro T hT X
  have htr : e.platform.stackTraces = false := (show e.platform.stackTraces = l.stackTraces by rw [X.admits.platform]).trans hl
  have Y := vx_rebase X (R' := { frames := R.frames, locals := R.locals, cells := 3, slots := nb + 10 }) (Nat.le_refl _) (Nat.le_refl _) hRcells hRslots
  have hhp : ((T.setVm s.vm).setFrames (.invoking m args :: below)).heap = H := hT
  have hW0 : s.WarmedH ((T.setVm s.vm).setFrames (.invoking m args :: below)).vm := State.WarmedH.refl s
  have hat' : ∀ w ∈ vx_atM cls names, w.before args ((T.setVm s.vm).setFrames (.invoking m args :: below)) = true := fun w hw => vx_ot_at hW0 rfl (hgood w hw) (hat w hw)
  have hU' : vx_Zq Bundle.tN "UNASSIGNED_STACK" Bundle.steD A ((T.setVm s.vm).setFrames (.invoking m args :: below)) ((T.setVm s.vm).setFrames (.invoking m args :: below)).heap := by rw [hhp]; exact vx_Zq.moved hW0.alike (hU.kept hS.2.1)
  have hN' : vx_Zq Bundle.tN "SUPPRESSED_SENTINEL" Bundle.listD A ((T.setVm s.vm).setFrames (.invoking m args :: below)) ((T.setVm s.vm).setFrames (.invoking m args :: below)).heap := by rw [hhp]; exact vx_Zq.moved hW0.alike (hN.kept hS.2.1)
  obtain ⟨S, q, ce, st, Z, hce, hcl', hv⟩ := vx_vmAt Y hexec htr (cls := cls) (names := names) (text := text) hcls hnames hsoe hoom (vx_own hat' (vx_isRefq hU'.1) (vx_isRefq hN'.1) hU'.2.word hN'.2.word) (fun x hx => nomatch hx) htext
    (by rw [Launch.admits_arrayLengthLimit X.admits]; omega) (by rw [Launch.admits_maxHeapBytes X.admits]; simp only [componentBytes]; omega)
    (g := F0 m pc ls rest) rfl hsize hRframes (by show 2 * 0 + (rest.map fun v => v.category).sum + 10240 ≤ R.locals; omega) hshort (by show 0 + 3 ≤ 3; omega) (by show 0 + (_ + 4 + 6) ≤ nb + 10; omega) hlocks
  obtain ⟨f1, f2⟩ := vx_frame Z.same
  have f1' : H.size ≤ S.heap.size := by rw [← hT]; exact f1
  have f2' : ∀ q : Nat, q < H.size → S.heap[q]? = H[q]? := fun q hq => by
    rw [← hT]
    exact f2 q (by rw [← hT] at hq; exact hq) (fun z hz => nomatch hz)
  have X5 := vx_back9 X Y Z
  have X6 : Stand p l e R s m args below meth c S locs (cells + 3) (slots + (nb + 10)) := { X5 with same := X5.same.mono (by omega) (by omega) }
  obtain ⟨t, a1, b1⟩ := k S.heap q ce f1' f2' ⟨Nat.le_trans hS.1 f1', fun q h1 h2 => (f2' q (Nat.lt_of_lt_of_le h1 hS.1)).trans (hS.2.1 q h1 h2), hS.2.2⟩ hce hv hcl' S rfl X6
  exact ⟨t, st t a1, b1⟩
/-- from the machine's note that NullPointerException is thrown here -/
def vx_NoteN (p : Program) (l : Launch) (e : Env) (R : Room) (s : State) (m : MethodId) (args : Array Value) (below : List Frame) (meth : Method) (c : Code) (H : Heap) (locs : List Loc) (cells slots : Nat) (Q : State → Prop) (g : JFrame) : Prop :=
  ∀ T : State, T.heap = H → Stand p l e R s m args below meth c T locs cells slots → ∃ t, Steps p.tables e below ((T.setTop g).pushFrame (.throwNew "java/lang/NullPointerException" none none)) t ∧ Q t
theorem vx_npe {pc : Nat} {ls : Array Slot} {rest : List Value} {Q : State → Prop} (hexec : p.tables.exec = Jvm.exec) (hl : l.stackTraces = false) {nb : Nat} {A : Nat → Prop}
    (hat : ∀ w ∈ vx_atN nb, w.before args s = true) (hgood : ∀ w ∈ vx_atN nb, vx_ot w = true)
    (hU : vx_Zq Bundle.tN "UNASSIGNED_STACK" Bundle.steD A s s.heap) (hN : vx_Zq Bundle.tN "SUPPRESSED_SENTINEL" Bundle.listD A s s.heap) (hS : va_S A s.heap H locs) (hsize : ls.size = c.maxLocals)
    (hRframes : 7 < R.frames) (hRlocals : (rest.map fun v => v.category).sum + 10240 ≤ R.locals) (hRcells : cells + 1 ≤ R.cells) (hRslots : slots + nb ≤ R.slots) (hlocks : meth.locks = false)
    (k : ∀ (H1 : Heap) (q9 : Addr) (ce : Cell), H.size ≤ H1.size → (∀ q : Nat, q < H.size → H1[q]? = H[q]?) → va_S A s.heap H1 locs → H1[q9]? = some ce → ce.vm = .none → s.vm.findClass "java/lang/NullPointerException" = some ce.cls → vx_W p l e R s m args below meth c H1 locs (cells + 1) (slots + nb) Q (F0 m pc ls rest) q9) :
    vx_NoteN p l e R s m args below meth c H locs cells slots Q (F0 m pc ls rest) := by
  intro T hT X
  have htr : e.platform.stackTraces = false := (show e.platform.stackTraces = l.stackTraces by rw [X.admits.platform]).trans hl
  have Y := vx_rebase X (R' := { frames := R.frames, locals := R.locals, cells := 1, slots := nb }) (Nat.le_refl _) (Nat.le_refl _) hRcells hRslots
  have hhp : ((T.setVm s.vm).setFrames (.invoking m args :: below)).heap = H := hT
  have hW0 : s.WarmedH ((T.setVm s.vm).setFrames (.invoking m args :: below)).vm := State.WarmedH.refl s
  have hat' : ∀ w ∈ vx_atN nb, w.before args ((T.setVm s.vm).setFrames (.invoking m args :: below)) = true := fun w hw => vx_ot_at hW0 rfl (hgood w hw) (hat w hw)
  have hU' : vx_Zq Bundle.tN "UNASSIGNED_STACK" Bundle.steD A ((T.setVm s.vm).setFrames (.invoking m args :: below)) ((T.setVm s.vm).setFrames (.invoking m args :: below)).heap := by rw [hhp]; exact vx_Zq.moved hW0.alike (hU.kept hS.2.1)
  have hN' : vx_Zq Bundle.tN "SUPPRESSED_SENTINEL" Bundle.listD A ((T.setVm s.vm).setFrames (.invoking m args :: below)) ((T.setVm s.vm).setFrames (.invoking m args :: below)).heap := by rw [hhp]; exact vx_Zq.moved hW0.alike (hN.kept hS.2.1)
  obtain ⟨S, q, ce, st, Z, hce, hcl', hv⟩ := vx_npeAt Y hexec htr (n := nb) (vx_own hat' (vx_isRefq hU'.1) (vx_isRefq hN'.1) hU'.2.word hN'.2.word) (fun x hx => nomatch hx)
    (g := F0 m pc ls rest) rfl hsize hRframes (by show 2 * 0 + (rest.map fun v => v.category).sum + 10240 ≤ R.locals; omega) (by show 0 + 1 ≤ 1; omega) (by show 0 + nb ≤ nb; omega) hlocks
  obtain ⟨f1, f2⟩ := vx_frame Z.same
  have f1' : H.size ≤ S.heap.size := by rw [← hT]; exact f1
  have f2' : ∀ q : Nat, q < H.size → S.heap[q]? = H[q]? := fun q hq => by
    rw [← hT]
    exact f2 q (by rw [← hT] at hq; exact hq) (fun z hz => nomatch hz)
  have X5 := vx_back9 X Y Z
  have X6 : Stand p l e R s m args below meth c S locs (cells + 1) (slots + nb) := { X5 with same := X5.same.mono (by omega) (by omega) }
  obtain ⟨t, a1, b1⟩ := k S.heap q ce f1' f2' ⟨Nat.le_trans hS.1 f1', fun q h1 h2 => (f2' q (Nat.lt_of_lt_of_le h1 hS.1)).trans (hS.2.1 q h1 h2), hS.2.2⟩ hce hv hcl' S rfl X6
  exact ⟨t, st t a1, b1⟩
variable {Q : State → Prop} {cc : ByteArray} {pc : Nat} {ls : Array Slot} {rest : List Value}
theorem vx_idivZ (hexec : p.tables.exec = Jvm.exec) (hb : c.code = cc) {a b : Int32} (h0 : b = 0) (d : decode cc pc = .ok (.idiv, 1)) (k : vx_Note p l e R s m args below meth c H locs cells slots Q (F0 m pc ls rest) "java/lang/ArithmeticException" "/ by zero") :
    W p l e R s m args below meth c H locs cells slots Q (F0 m pc ls (.int b :: .int a :: rest)) := by
  intro T hT X
  obtain ⟨t, st, q⟩ := k T hT X
  exact ⟨t, X.idivZero hexec (g := F0 m pc ls (.int b :: .int a :: rest)) rfl (a := a) (rest := rest) (by rw [h0]) (by rw [hb]; exact d) t st, q⟩
theorem vx_iremZ (hexec : p.tables.exec = Jvm.exec) (hb : c.code = cc) {a b : Int32} (h0 : b = 0) (d : decode cc pc = .ok (.irem, 1)) (k : vx_Note p l e R s m args below meth c H locs cells slots Q (F0 m pc ls rest) "java/lang/ArithmeticException" "/ by zero") :
    W p l e R s m args below meth c H locs cells slots Q (F0 m pc ls (.int b :: .int a :: rest)) := by
  intro T hT X
  obtain ⟨t, st, q⟩ := k T hT X
  exact ⟨t, X.iremZero hexec (g := F0 m pc ls (.int b :: .int a :: rest)) rfl (a := a) (rest := rest) (by rw [h0]) (by rw [hb]; exact d) t st, q⟩
theorem vx_ldivZ (hexec : p.tables.exec = Jvm.exec) (hb : c.code = cc) {a b : Int64} (h0 : b = 0) (d : decode cc pc = .ok (.ldiv, 1)) (k : vx_Note p l e R s m args below meth c H locs cells slots Q (F0 m pc ls rest) "java/lang/ArithmeticException" "/ by zero") :
    W p l e R s m args below meth c H locs cells slots Q (F0 m pc ls (.long b :: .long a :: rest)) := by
  intro T hT X
  obtain ⟨t, st, q⟩ := k T hT X
  exact ⟨t, X.ldivZero hexec (g := F0 m pc ls (.long b :: .long a :: rest)) rfl (a := a) (rest := rest) (by rw [h0]) (by rw [hb]; exact d) t st, q⟩
theorem vx_lremZ (hexec : p.tables.exec = Jvm.exec) (hb : c.code = cc) {a b : Int64} (h0 : b = 0) (d : decode cc pc = .ok (.lrem, 1)) (k : vx_Note p l e R s m args below meth c H locs cells slots Q (F0 m pc ls rest) "java/lang/ArithmeticException" "/ by zero") :
    W p l e R s m args below meth c H locs cells slots Q (F0 m pc ls (.long b :: .long a :: rest)) := by
  intro T hT X
  obtain ⟨t, st, q⟩ := k T hT X
  exact ⟨t, X.lremZero hexec (g := F0 m pc ls (.long b :: .long a :: rest)) rfl (a := a) (rest := rest) (by rw [h0]) (by rw [hb]; exact d) t st, q⟩
theorem vx_ialdZ {D : va_G} {cl : List vw_C} {ws : va_W} {tys : List (ClassId × FieldType)} {a : Nat} (hexec : p.tables.exec = Jvm.exec) (hb : c.code = cc) (hK : va_K D cl tys s) (hP : va_P D cl ws H) (q0 t0 : Nat) {cA : ClassId} {n : Nat} {f : Nat → Int32} (ha : ws[q0]? = some (a, .inl (cA, n, .inl f))) (ht : tys[t0]? = some (cA, .int)) {i : Int32} (hout : ¬ vp_in i n) (hdg : decode cc pc = .ok (.iaload, 1))
    (k : ∀ tx : String, tx = (toString "Index " ++ toString i ++ toString " out of bounds for length " ++ toString n : String) → vx_Note p l e R s m args below meth c H locs cells slots Q (F0 m pc ls rest) "java/lang/ArrayIndexOutOfBoundsException" tx) : W p l e R s m args below meth c H locs cells slots Q (F0 m pc ls (.int i :: .ref a :: rest)) := by
  intro T hT X
  obtain ⟨t, st, q⟩ := k _ rfl T hT X
  refine ⟨t, ?_, q⟩
  have h1 := X.ialoadOut hexec (by rw [hT]; exact hP q0 _ ha) ((hK.2 t0 _ ht).1 n (fun j => .int (f j))) (j := i) (by show (i < 0 ∨ (arrV _ _ _).slots.size ≤ _); rw [arrV_size]; exact Classical.byContradiction hout) (g := F0 m pc ls (.int i :: .ref a :: rest)) rfl (rest := rest) rfl (by rw [hb]; exact hdg) t
  simp only [arrV_size] at h1
  exact h1 st
theorem vx_iastZ {D : va_G} {cl : List vw_C} {ws : va_W} {tys : List (ClassId × FieldType)} {a : Nat} (hexec : p.tables.exec = Jvm.exec) (hb : c.code = cc) (hK : va_K D cl tys s) (hP : va_P D cl ws H) (q0 t0 : Nat) {cA : ClassId} {n : Nat} {f : Nat → Int32} (ha : ws[q0]? = some (a, .inl (cA, n, .inl f))) (ht : tys[t0]? = some (cA, .int)) {i : Int32} {x : Int32} (hout : ¬ vp_in i n) (hdg : decode cc pc = .ok (.iastore, 1))
    (k : ∀ tx : String, tx = (toString "Index " ++ toString i ++ toString " out of bounds for length " ++ toString n : String) → vx_Note p l e R s m args below meth c H locs cells slots Q (F0 m pc ls rest) "java/lang/ArrayIndexOutOfBoundsException" tx) : W p l e R s m args below meth c H locs cells slots Q (F0 m pc ls (.int x :: .int i :: .ref a :: rest)) := by
  intro T hT X
  obtain ⟨t, st, q⟩ := k _ rfl T hT X
  refine ⟨t, ?_, q⟩
  have h1 := X.iastoreOut hexec (by rw [hT]; exact hP q0 _ ha) ((hK.2 t0 _ ht).1 n (fun j => .int (f j))) (j := i) (by show (i < 0 ∨ (arrV _ _ _).slots.size ≤ _); rw [arrV_size]; exact Classical.byContradiction hout) (g := F0 m pc ls (.int x :: .int i :: .ref a :: rest)) rfl (rest := rest) rfl (by rw [hb]; exact hdg) t
  simp only [arrV_size] at h1
  exact h1 st
theorem vx_baldZ {D : va_G} {cl : List vw_C} {ws : va_W} {tys : List (ClassId × FieldType)} {a : Nat} (hexec : p.tables.exec = Jvm.exec) (hb : c.code = cc) (hK : va_K D cl tys s) (hP : va_P D cl ws H) (q0 t0 : Nat) {cA : ClassId} {n : Nat} {f : Nat → Int32} (ha : ws[q0]? = some (a, .inl (cA, n, .inl f))) (ht : tys[t0]? = some (cA, .byte)) {i : Int32} (hout : ¬ vp_in i n) (hdg : decode cc pc = .ok (.baload, 1))
    (k : ∀ tx : String, tx = (toString "Index " ++ toString i ++ toString " out of bounds for length " ++ toString n : String) → vx_Note p l e R s m args below meth c H locs cells slots Q (F0 m pc ls rest) "java/lang/ArrayIndexOutOfBoundsException" tx) : W p l e R s m args below meth c H locs cells slots Q (F0 m pc ls (.int i :: .ref a :: rest)) := by
  intro T hT X
  obtain ⟨t, st, q⟩ := k _ rfl T hT X
  refine ⟨t, ?_, q⟩
  have h1 := X.baloadOut hexec (by rw [hT]; exact hP q0 _ ha) ((hK.2 t0 _ ht).1 n (fun j => .int (f j))) (j := i) (by show (i < 0 ∨ (arrV _ _ _).slots.size ≤ _); rw [arrV_size]; exact Classical.byContradiction hout) (g := F0 m pc ls (.int i :: .ref a :: rest)) rfl (rest := rest) rfl (by rw [hb]; exact hdg) t
  simp only [arrV_size] at h1
  exact h1 st
theorem vx_bastZ {D : va_G} {cl : List vw_C} {ws : va_W} {tys : List (ClassId × FieldType)} {a : Nat} (hexec : p.tables.exec = Jvm.exec) (hb : c.code = cc) (hK : va_K D cl tys s) (hP : va_P D cl ws H) (q0 t0 : Nat) {cA : ClassId} {n : Nat} {f : Nat → Int32} (ha : ws[q0]? = some (a, .inl (cA, n, .inl f))) (ht : tys[t0]? = some (cA, .byte)) {i : Int32} {x : Int32} (hout : ¬ vp_in i n) (hdg : decode cc pc = .ok (.bastore, 1))
    (k : ∀ tx : String, tx = (toString "Index " ++ toString i ++ toString " out of bounds for length " ++ toString n : String) → vx_Note p l e R s m args below meth c H locs cells slots Q (F0 m pc ls rest) "java/lang/ArrayIndexOutOfBoundsException" tx) : W p l e R s m args below meth c H locs cells slots Q (F0 m pc ls (.int x :: .int i :: .ref a :: rest)) := by
  intro T hT X
  obtain ⟨t, st, q⟩ := k _ rfl T hT X
  refine ⟨t, ?_, q⟩
  have h1 := X.bastoreOut hexec (by rw [hT]; exact hP q0 _ ha) ((hK.2 t0 _ ht).1 n (fun j => .int (f j))) (j := i) (by show (i < 0 ∨ (arrV _ _ _).slots.size ≤ _); rw [arrV_size]; exact Classical.byContradiction hout) (g := F0 m pc ls (.int x :: .int i :: .ref a :: rest)) rfl (rest := rest) rfl (by rw [hb]; exact hdg) t
  simp only [arrV_size] at h1
  exact h1 st
theorem vx_zaldZ {D : va_G} {cl : List vw_C} {ws : va_W} {tys : List (ClassId × FieldType)} {a : Nat} (hexec : p.tables.exec = Jvm.exec) (hb : c.code = cc) (hK : va_K D cl tys s) (hP : va_P D cl ws H) (q0 t0 : Nat) {cA : ClassId} {n : Nat} {f : Nat → Int32} (ha : ws[q0]? = some (a, .inl (cA, n, .inl f))) (ht : tys[t0]? = some (cA, .boolean)) {i : Int32} (hout : ¬ vp_in i n) (hdg : decode cc pc = .ok (.baload, 1))
    (k : ∀ tx : String, tx = (toString "Index " ++ toString i ++ toString " out of bounds for length " ++ toString n : String) → vx_Note p l e R s m args below meth c H locs cells slots Q (F0 m pc ls rest) "java/lang/ArrayIndexOutOfBoundsException" tx) : W p l e R s m args below meth c H locs cells slots Q (F0 m pc ls (.int i :: .ref a :: rest)) := by
  intro T hT X
  obtain ⟨t, st, q⟩ := k _ rfl T hT X
  refine ⟨t, ?_, q⟩
  have h1 := X.baloadOut hexec (by rw [hT]; exact hP q0 _ ha) ((hK.2 t0 _ ht).1 n (fun j => .int (f j))) (j := i) (by show (i < 0 ∨ (arrV _ _ _).slots.size ≤ _); rw [arrV_size]; exact Classical.byContradiction hout) (g := F0 m pc ls (.int i :: .ref a :: rest)) rfl (rest := rest) rfl (by rw [hb]; exact hdg) t
  simp only [arrV_size] at h1
  exact h1 st
theorem vx_zastZ {D : va_G} {cl : List vw_C} {ws : va_W} {tys : List (ClassId × FieldType)} {a : Nat} (hexec : p.tables.exec = Jvm.exec) (hb : c.code = cc) (hK : va_K D cl tys s) (hP : va_P D cl ws H) (q0 t0 : Nat) {cA : ClassId} {n : Nat} {f : Nat → Int32} (ha : ws[q0]? = some (a, .inl (cA, n, .inl f))) (ht : tys[t0]? = some (cA, .boolean)) {i : Int32} {x : Int32} (hout : ¬ vp_in i n) (hdg : decode cc pc = .ok (.bastore, 1))
    (k : ∀ tx : String, tx = (toString "Index " ++ toString i ++ toString " out of bounds for length " ++ toString n : String) → vx_Note p l e R s m args below meth c H locs cells slots Q (F0 m pc ls rest) "java/lang/ArrayIndexOutOfBoundsException" tx) : W p l e R s m args below meth c H locs cells slots Q (F0 m pc ls (.int x :: .int i :: .ref a :: rest)) := by
  intro T hT X
  obtain ⟨t, st, q⟩ := k _ rfl T hT X
  refine ⟨t, ?_, q⟩
  have h1 := X.bastoreOut hexec (by rw [hT]; exact hP q0 _ ha) ((hK.2 t0 _ ht).1 n (fun j => .int (f j))) (j := i) (by show (i < 0 ∨ (arrV _ _ _).slots.size ≤ _); rw [arrV_size]; exact Classical.byContradiction hout) (g := F0 m pc ls (.int x :: .int i :: .ref a :: rest)) rfl (rest := rest) rfl (by rw [hb]; exact hdg) t
  simp only [arrV_size] at h1
  exact h1 st
theorem vx_caldZ {D : va_G} {cl : List vw_C} {ws : va_W} {tys : List (ClassId × FieldType)} {a : Nat} (hexec : p.tables.exec = Jvm.exec) (hb : c.code = cc) (hK : va_K D cl tys s) (hP : va_P D cl ws H) (q0 t0 : Nat) {cA : ClassId} {n : Nat} {f : Nat → Int32} (ha : ws[q0]? = some (a, .inl (cA, n, .inl f))) (ht : tys[t0]? = some (cA, .char)) {i : Int32} (hout : ¬ vp_in i n) (hdg : decode cc pc = .ok (.caload, 1))
    (k : ∀ tx : String, tx = (toString "Index " ++ toString i ++ toString " out of bounds for length " ++ toString n : String) → vx_Note p l e R s m args below meth c H locs cells slots Q (F0 m pc ls rest) "java/lang/ArrayIndexOutOfBoundsException" tx) : W p l e R s m args below meth c H locs cells slots Q (F0 m pc ls (.int i :: .ref a :: rest)) := by
  intro T hT X
  obtain ⟨t, st, q⟩ := k _ rfl T hT X
  refine ⟨t, ?_, q⟩
  have h1 := X.caloadOut hexec (by rw [hT]; exact hP q0 _ ha) ((hK.2 t0 _ ht).1 n (fun j => .int (f j))) (j := i) (by show (i < 0 ∨ (arrV _ _ _).slots.size ≤ _); rw [arrV_size]; exact Classical.byContradiction hout) (g := F0 m pc ls (.int i :: .ref a :: rest)) rfl (rest := rest) rfl (by rw [hb]; exact hdg) t
  simp only [arrV_size] at h1
  exact h1 st
theorem vx_castZ {D : va_G} {cl : List vw_C} {ws : va_W} {tys : List (ClassId × FieldType)} {a : Nat} (hexec : p.tables.exec = Jvm.exec) (hb : c.code = cc) (hK : va_K D cl tys s) (hP : va_P D cl ws H) (q0 t0 : Nat) {cA : ClassId} {n : Nat} {f : Nat → Int32} (ha : ws[q0]? = some (a, .inl (cA, n, .inl f))) (ht : tys[t0]? = some (cA, .char)) {i : Int32} {x : Int32} (hout : ¬ vp_in i n) (hdg : decode cc pc = .ok (.castore, 1))
    (k : ∀ tx : String, tx = (toString "Index " ++ toString i ++ toString " out of bounds for length " ++ toString n : String) → vx_Note p l e R s m args below meth c H locs cells slots Q (F0 m pc ls rest) "java/lang/ArrayIndexOutOfBoundsException" tx) : W p l e R s m args below meth c H locs cells slots Q (F0 m pc ls (.int x :: .int i :: .ref a :: rest)) := by
  intro T hT X
  obtain ⟨t, st, q⟩ := k _ rfl T hT X
  refine ⟨t, ?_, q⟩
  have h1 := X.castoreOut hexec (by rw [hT]; exact hP q0 _ ha) ((hK.2 t0 _ ht).1 n (fun j => .int (f j))) (j := i) (by show (i < 0 ∨ (arrV _ _ _).slots.size ≤ _); rw [arrV_size]; exact Classical.byContradiction hout) (g := F0 m pc ls (.int x :: .int i :: .ref a :: rest)) rfl (rest := rest) rfl (by rw [hb]; exact hdg) t
  simp only [arrV_size] at h1
  exact h1 st
theorem vx_saldZ {D : va_G} {cl : List vw_C} {ws : va_W} {tys : List (ClassId × FieldType)} {a : Nat} (hexec : p.tables.exec = Jvm.exec) (hb : c.code = cc) (hK : va_K D cl tys s) (hP : va_P D cl ws H) (q0 t0 : Nat) {cA : ClassId} {n : Nat} {f : Nat → Int32} (ha : ws[q0]? = some (a, .inl (cA, n, .inl f))) (ht : tys[t0]? = some (cA, .short)) {i : Int32} (hout : ¬ vp_in i n) (hdg : decode cc pc = .ok (.saload, 1))
    (k : ∀ tx : String, tx = (toString "Index " ++ toString i ++ toString " out of bounds for length " ++ toString n : String) → vx_Note p l e R s m args below meth c H locs cells slots Q (F0 m pc ls rest) "java/lang/ArrayIndexOutOfBoundsException" tx) : W p l e R s m args below meth c H locs cells slots Q (F0 m pc ls (.int i :: .ref a :: rest)) := by
  intro T hT X
  obtain ⟨t, st, q⟩ := k _ rfl T hT X
  refine ⟨t, ?_, q⟩
  have h1 := X.saloadOut hexec (by rw [hT]; exact hP q0 _ ha) ((hK.2 t0 _ ht).1 n (fun j => .int (f j))) (j := i) (by show (i < 0 ∨ (arrV _ _ _).slots.size ≤ _); rw [arrV_size]; exact Classical.byContradiction hout) (g := F0 m pc ls (.int i :: .ref a :: rest)) rfl (rest := rest) rfl (by rw [hb]; exact hdg) t
  simp only [arrV_size] at h1
  exact h1 st
theorem vx_sastZ {D : va_G} {cl : List vw_C} {ws : va_W} {tys : List (ClassId × FieldType)} {a : Nat} (hexec : p.tables.exec = Jvm.exec) (hb : c.code = cc) (hK : va_K D cl tys s) (hP : va_P D cl ws H) (q0 t0 : Nat) {cA : ClassId} {n : Nat} {f : Nat → Int32} (ha : ws[q0]? = some (a, .inl (cA, n, .inl f))) (ht : tys[t0]? = some (cA, .short)) {i : Int32} {x : Int32} (hout : ¬ vp_in i n) (hdg : decode cc pc = .ok (.sastore, 1))
    (k : ∀ tx : String, tx = (toString "Index " ++ toString i ++ toString " out of bounds for length " ++ toString n : String) → vx_Note p l e R s m args below meth c H locs cells slots Q (F0 m pc ls rest) "java/lang/ArrayIndexOutOfBoundsException" tx) : W p l e R s m args below meth c H locs cells slots Q (F0 m pc ls (.int x :: .int i :: .ref a :: rest)) := by
  intro T hT X
  obtain ⟨t, st, q⟩ := k _ rfl T hT X
  refine ⟨t, ?_, q⟩
  have h1 := X.sastoreOut hexec (by rw [hT]; exact hP q0 _ ha) ((hK.2 t0 _ ht).1 n (fun j => .int (f j))) (j := i) (by show (i < 0 ∨ (arrV _ _ _).slots.size ≤ _); rw [arrV_size]; exact Classical.byContradiction hout) (g := F0 m pc ls (.int x :: .int i :: .ref a :: rest)) rfl (rest := rest) rfl (by rw [hb]; exact hdg) t
  simp only [arrV_size] at h1
  exact h1 st
theorem vx_laldZ {D : va_G} {cl : List vw_C} {ws : va_W} {tys : List (ClassId × FieldType)} {a : Nat} (hexec : p.tables.exec = Jvm.exec) (hb : c.code = cc) (hK : va_K D cl tys s) (hP : va_P D cl ws H) (q0 t0 : Nat) {cA : ClassId} {n : Nat} {f : Nat → Int64} (ha : ws[q0]? = some (a, .inl (cA, n, .inr (.inl f)))) (ht : tys[t0]? = some (cA, .long)) {i : Int32} (hout : ¬ vp_in i n) (hdg : decode cc pc = .ok (.laload, 1))
    (k : ∀ tx : String, tx = (toString "Index " ++ toString i ++ toString " out of bounds for length " ++ toString n : String) → vx_Note p l e R s m args below meth c H locs cells slots Q (F0 m pc ls rest) "java/lang/ArrayIndexOutOfBoundsException" tx) : W p l e R s m args below meth c H locs cells slots Q (F0 m pc ls (.int i :: .ref a :: rest)) := by
  intro T hT X
  obtain ⟨t, st, q⟩ := k _ rfl T hT X
  refine ⟨t, ?_, q⟩
  have h1 := X.laloadOut hexec (by rw [hT]; exact hP q0 _ ha) ((hK.2 t0 _ ht).1 n (fun j => .long (f j))) (j := i) (by show (i < 0 ∨ (arrV _ _ _).slots.size ≤ _); rw [arrV_size]; exact Classical.byContradiction hout) (g := F0 m pc ls (.int i :: .ref a :: rest)) rfl (rest := rest) rfl (by rw [hb]; exact hdg) t
  simp only [arrV_size] at h1
  exact h1 st
theorem vx_lastZ {D : va_G} {cl : List vw_C} {ws : va_W} {tys : List (ClassId × FieldType)} {a : Nat} (hexec : p.tables.exec = Jvm.exec) (hb : c.code = cc) (hK : va_K D cl tys s) (hP : va_P D cl ws H) (q0 t0 : Nat) {cA : ClassId} {n : Nat} {f : Nat → Int64} (ha : ws[q0]? = some (a, .inl (cA, n, .inr (.inl f)))) (ht : tys[t0]? = some (cA, .long)) {i : Int32} {x : Int64} (hout : ¬ vp_in i n) (hdg : decode cc pc = .ok (.lastore, 1))
    (k : ∀ tx : String, tx = (toString "Index " ++ toString i ++ toString " out of bounds for length " ++ toString n : String) → vx_Note p l e R s m args below meth c H locs cells slots Q (F0 m pc ls rest) "java/lang/ArrayIndexOutOfBoundsException" tx) : W p l e R s m args below meth c H locs cells slots Q (F0 m pc ls (.long x :: .int i :: .ref a :: rest)) := by
  intro T hT X
  obtain ⟨t, st, q⟩ := k _ rfl T hT X
  refine ⟨t, ?_, q⟩
  have h1 := X.lastoreOut hexec (by rw [hT]; exact hP q0 _ ha) ((hK.2 t0 _ ht).1 n (fun j => .long (f j))) (j := i) (by show (i < 0 ∨ (arrV _ _ _).slots.size ≤ _); rw [arrV_size]; exact Classical.byContradiction hout) (g := F0 m pc ls (.long x :: .int i :: .ref a :: rest)) rfl (rest := rest) rfl (by rw [hb]; exact hdg) t
  simp only [arrV_size] at h1
  exact h1 st
theorem vx_faldZ {D : va_G} {cl : List vw_C} {ws : va_W} {tys : List (ClassId × FieldType)} {a : Nat} (hexec : p.tables.exec = Jvm.exec) (hb : c.code = cc) (hK : va_K D cl tys s) (hP : va_P D cl ws H) (q0 t0 : Nat) {cA : ClassId} {n : Nat} {f : Nat → UInt32} (ha : ws[q0]? = some (a, .inl (cA, n, .inr (.inr (.inl f))))) (ht : tys[t0]? = some (cA, .float)) {i : Int32} (hout : ¬ vp_in i n) (hdg : decode cc pc = .ok (.faload, 1))
    (k : ∀ tx : String, tx = (toString "Index " ++ toString i ++ toString " out of bounds for length " ++ toString n : String) → vx_Note p l e R s m args below meth c H locs cells slots Q (F0 m pc ls rest) "java/lang/ArrayIndexOutOfBoundsException" tx) : W p l e R s m args below meth c H locs cells slots Q (F0 m pc ls (.int i :: .ref a :: rest)) := by
  intro T hT X
  obtain ⟨t, st, q⟩ := k _ rfl T hT X
  refine ⟨t, ?_, q⟩
  have h1 := X.faloadOut hexec (by rw [hT]; exact hP q0 _ ha) ((hK.2 t0 _ ht).1 n (fun j => .float (f j))) (j := i) (by show (i < 0 ∨ (arrV _ _ _).slots.size ≤ _); rw [arrV_size]; exact Classical.byContradiction hout) (g := F0 m pc ls (.int i :: .ref a :: rest)) rfl (rest := rest) rfl (by rw [hb]; exact hdg) t
  simp only [arrV_size] at h1
  exact h1 st
theorem vx_fastZ {D : va_G} {cl : List vw_C} {ws : va_W} {tys : List (ClassId × FieldType)} {a : Nat} (hexec : p.tables.exec = Jvm.exec) (hb : c.code = cc) (hK : va_K D cl tys s) (hP : va_P D cl ws H) (q0 t0 : Nat) {cA : ClassId} {n : Nat} {f : Nat → UInt32} (ha : ws[q0]? = some (a, .inl (cA, n, .inr (.inr (.inl f))))) (ht : tys[t0]? = some (cA, .float)) {i : Int32} {x : UInt32} (hout : ¬ vp_in i n) (hdg : decode cc pc = .ok (.fastore, 1))
    (k : ∀ tx : String, tx = (toString "Index " ++ toString i ++ toString " out of bounds for length " ++ toString n : String) → vx_Note p l e R s m args below meth c H locs cells slots Q (F0 m pc ls rest) "java/lang/ArrayIndexOutOfBoundsException" tx) : W p l e R s m args below meth c H locs cells slots Q (F0 m pc ls (.float x :: .int i :: .ref a :: rest)) := by
  intro T hT X
  obtain ⟨t, st, q⟩ := k _ rfl T hT X
  refine ⟨t, ?_, q⟩
  have h1 := X.fastoreOut hexec (by rw [hT]; exact hP q0 _ ha) ((hK.2 t0 _ ht).1 n (fun j => .float (f j))) (j := i) (by show (i < 0 ∨ (arrV _ _ _).slots.size ≤ _); rw [arrV_size]; exact Classical.byContradiction hout) (g := F0 m pc ls (.float x :: .int i :: .ref a :: rest)) rfl (rest := rest) rfl (by rw [hb]; exact hdg) t
  simp only [arrV_size] at h1
  exact h1 st
theorem vx_daldZ {D : va_G} {cl : List vw_C} {ws : va_W} {tys : List (ClassId × FieldType)} {a : Nat} (hexec : p.tables.exec = Jvm.exec) (hb : c.code = cc) (hK : va_K D cl tys s) (hP : va_P D cl ws H) (q0 t0 : Nat) {cA : ClassId} {n : Nat} {f : Nat → UInt64} (ha : ws[q0]? = some (a, .inl (cA, n, .inr (.inr (.inr (.inl f)))))) (ht : tys[t0]? = some (cA, .double)) {i : Int32} (hout : ¬ vp_in i n) (hdg : decode cc pc = .ok (.daload, 1))
    (k : ∀ tx : String, tx = (toString "Index " ++ toString i ++ toString " out of bounds for length " ++ toString n : String) → vx_Note p l e R s m args below meth c H locs cells slots Q (F0 m pc ls rest) "java/lang/ArrayIndexOutOfBoundsException" tx) : W p l e R s m args below meth c H locs cells slots Q (F0 m pc ls (.int i :: .ref a :: rest)) := by
  intro T hT X
  obtain ⟨t, st, q⟩ := k _ rfl T hT X
  refine ⟨t, ?_, q⟩
  have h1 := X.daloadOut hexec (by rw [hT]; exact hP q0 _ ha) ((hK.2 t0 _ ht).1 n (fun j => .double (f j))) (j := i) (by show (i < 0 ∨ (arrV _ _ _).slots.size ≤ _); rw [arrV_size]; exact Classical.byContradiction hout) (g := F0 m pc ls (.int i :: .ref a :: rest)) rfl (rest := rest) rfl (by rw [hb]; exact hdg) t
  simp only [arrV_size] at h1
  exact h1 st
theorem vx_dastZ {D : va_G} {cl : List vw_C} {ws : va_W} {tys : List (ClassId × FieldType)} {a : Nat} (hexec : p.tables.exec = Jvm.exec) (hb : c.code = cc) (hK : va_K D cl tys s) (hP : va_P D cl ws H) (q0 t0 : Nat) {cA : ClassId} {n : Nat} {f : Nat → UInt64} (ha : ws[q0]? = some (a, .inl (cA, n, .inr (.inr (.inr (.inl f)))))) (ht : tys[t0]? = some (cA, .double)) {i : Int32} {x : UInt64} (hout : ¬ vp_in i n) (hdg : decode cc pc = .ok (.dastore, 1))
    (k : ∀ tx : String, tx = (toString "Index " ++ toString i ++ toString " out of bounds for length " ++ toString n : String) → vx_Note p l e R s m args below meth c H locs cells slots Q (F0 m pc ls rest) "java/lang/ArrayIndexOutOfBoundsException" tx) : W p l e R s m args below meth c H locs cells slots Q (F0 m pc ls (.double x :: .int i :: .ref a :: rest)) := by
  intro T hT X
  obtain ⟨t, st, q⟩ := k _ rfl T hT X
  refine ⟨t, ?_, q⟩
  have h1 := X.dastoreOut hexec (by rw [hT]; exact hP q0 _ ha) ((hK.2 t0 _ ht).1 n (fun j => .double (f j))) (j := i) (by show (i < 0 ∨ (arrV _ _ _).slots.size ≤ _); rw [arrV_size]; exact Classical.byContradiction hout) (g := F0 m pc ls (.double x :: .int i :: .ref a :: rest)) rfl (rest := rest) rfl (by rw [hb]; exact hdg) t
  simp only [arrV_size] at h1
  exact h1 st
theorem vx_arraylengthN (hexec : p.tables.exec = Jvm.exec) (hb : c.code = cc) (hdg : decode cc pc = .ok (.arraylength, 1)) (k : vx_NoteN p l e R s m args below meth c H locs cells slots Q (F0 m pc ls rest)) : W p l e R s m args below meth c H locs cells slots Q (F0 m pc ls (.null :: rest)) := by
  intro T hT X
  obtain ⟨t, st, q⟩ := k T hT X
  exact ⟨t, X.arraylengthNull hexec (g := F0 m pc ls (.null :: rest)) rfl (rest := rest) rfl (by rw [hb]; exact hdg) t st, q⟩
theorem vx_ialoadN (hexec : p.tables.exec = Jvm.exec) (hb : c.code = cc) {i : Int32} (hdg : decode cc pc = .ok (.iaload, 1)) (k : vx_NoteN p l e R s m args below meth c H locs cells slots Q (F0 m pc ls rest)) : W p l e R s m args below meth c H locs cells slots Q (F0 m pc ls (.int i :: .null :: rest)) := by
  intro T hT X
  obtain ⟨t, st, q⟩ := k T hT X
  exact ⟨t, X.ialoadNull hexec (g := F0 m pc ls (.int i :: .null :: rest)) rfl (rest := rest) rfl (by rw [hb]; exact hdg) t st, q⟩
theorem vx_laloadN (hexec : p.tables.exec = Jvm.exec) (hb : c.code = cc) {i : Int32} (hdg : decode cc pc = .ok (.laload, 1)) (k : vx_NoteN p l e R s m args below meth c H locs cells slots Q (F0 m pc ls rest)) : W p l e R s m args below meth c H locs cells slots Q (F0 m pc ls (.int i :: .null :: rest)) := by
  intro T hT X
  obtain ⟨t, st, q⟩ := k T hT X
  exact ⟨t, X.laloadNull hexec (g := F0 m pc ls (.int i :: .null :: rest)) rfl (rest := rest) rfl (by rw [hb]; exact hdg) t st, q⟩
theorem vx_faloadN (hexec : p.tables.exec = Jvm.exec) (hb : c.code = cc) {i : Int32} (hdg : decode cc pc = .ok (.faload, 1)) (k : vx_NoteN p l e R s m args below meth c H locs cells slots Q (F0 m pc ls rest)) : W p l e R s m args below meth c H locs cells slots Q (F0 m pc ls (.int i :: .null :: rest)) := by
  intro T hT X
  obtain ⟨t, st, q⟩ := k T hT X
  exact ⟨t, X.faloadNull hexec (g := F0 m pc ls (.int i :: .null :: rest)) rfl (rest := rest) rfl (by rw [hb]; exact hdg) t st, q⟩
theorem vx_daloadN (hexec : p.tables.exec = Jvm.exec) (hb : c.code = cc) {i : Int32} (hdg : decode cc pc = .ok (.daload, 1)) (k : vx_NoteN p l e R s m args below meth c H locs cells slots Q (F0 m pc ls rest)) : W p l e R s m args below meth c H locs cells slots Q (F0 m pc ls (.int i :: .null :: rest)) := by
  intro T hT X
  obtain ⟨t, st, q⟩ := k T hT X
  exact ⟨t, X.daloadNull hexec (g := F0 m pc ls (.int i :: .null :: rest)) rfl (rest := rest) rfl (by rw [hb]; exact hdg) t st, q⟩
theorem vx_aaloadN (hexec : p.tables.exec = Jvm.exec) (hb : c.code = cc) {i : Int32} (hdg : decode cc pc = .ok (.aaload, 1)) (k : vx_NoteN p l e R s m args below meth c H locs cells slots Q (F0 m pc ls rest)) : W p l e R s m args below meth c H locs cells slots Q (F0 m pc ls (.int i :: .null :: rest)) := by
  intro T hT X
  obtain ⟨t, st, q⟩ := k T hT X
  exact ⟨t, X.aaloadNull hexec (g := F0 m pc ls (.int i :: .null :: rest)) rfl (rest := rest) rfl (by rw [hb]; exact hdg) t st, q⟩
theorem vx_baloadN (hexec : p.tables.exec = Jvm.exec) (hb : c.code = cc) {i : Int32} (hdg : decode cc pc = .ok (.baload, 1)) (k : vx_NoteN p l e R s m args below meth c H locs cells slots Q (F0 m pc ls rest)) : W p l e R s m args below meth c H locs cells slots Q (F0 m pc ls (.int i :: .null :: rest)) := by
  intro T hT X
  obtain ⟨t, st, q⟩ := k T hT X
  exact ⟨t, X.baloadNull hexec (g := F0 m pc ls (.int i :: .null :: rest)) rfl (rest := rest) rfl (by rw [hb]; exact hdg) t st, q⟩
theorem vx_caloadN (hexec : p.tables.exec = Jvm.exec) (hb : c.code = cc) {i : Int32} (hdg : decode cc pc = .ok (.caload, 1)) (k : vx_NoteN p l e R s m args below meth c H locs cells slots Q (F0 m pc ls rest)) : W p l e R s m args below meth c H locs cells slots Q (F0 m pc ls (.int i :: .null :: rest)) := by
  intro T hT X
  obtain ⟨t, st, q⟩ := k T hT X
  exact ⟨t, X.caloadNull hexec (g := F0 m pc ls (.int i :: .null :: rest)) rfl (rest := rest) rfl (by rw [hb]; exact hdg) t st, q⟩
theorem vx_saloadN (hexec : p.tables.exec = Jvm.exec) (hb : c.code = cc) {i : Int32} (hdg : decode cc pc = .ok (.saload, 1)) (k : vx_NoteN p l e R s m args below meth c H locs cells slots Q (F0 m pc ls rest)) : W p l e R s m args below meth c H locs cells slots Q (F0 m pc ls (.int i :: .null :: rest)) := by
  intro T hT X
  obtain ⟨t, st, q⟩ := k T hT X
  exact ⟨t, X.saloadNull hexec (g := F0 m pc ls (.int i :: .null :: rest)) rfl (rest := rest) rfl (by rw [hb]; exact hdg) t st, q⟩
theorem vx_iastoreN (hexec : p.tables.exec = Jvm.exec) (hb : c.code = cc) {x : Int32} {i : Int32} (hdg : decode cc pc = .ok (.iastore, 1)) (k : vx_NoteN p l e R s m args below meth c H locs cells slots Q (F0 m pc ls rest)) : W p l e R s m args below meth c H locs cells slots Q (F0 m pc ls (.int x :: .int i :: .null :: rest)) := by
  intro T hT X
  obtain ⟨t, st, q⟩ := k T hT X
  exact ⟨t, X.iastoreNull hexec (g := F0 m pc ls (.int x :: .int i :: .null :: rest)) rfl (rest := rest) rfl (by rw [hb]; exact hdg) t st, q⟩
theorem vx_lastoreN (hexec : p.tables.exec = Jvm.exec) (hb : c.code = cc) {x : Int64} {i : Int32} (hdg : decode cc pc = .ok (.lastore, 1)) (k : vx_NoteN p l e R s m args below meth c H locs cells slots Q (F0 m pc ls rest)) : W p l e R s m args below meth c H locs cells slots Q (F0 m pc ls (.long x :: .int i :: .null :: rest)) := by
  intro T hT X
  obtain ⟨t, st, q⟩ := k T hT X
  exact ⟨t, X.lastoreNull hexec (g := F0 m pc ls (.long x :: .int i :: .null :: rest)) rfl (rest := rest) rfl (by rw [hb]; exact hdg) t st, q⟩
theorem vx_fastoreN (hexec : p.tables.exec = Jvm.exec) (hb : c.code = cc) {x : UInt32} {i : Int32} (hdg : decode cc pc = .ok (.fastore, 1)) (k : vx_NoteN p l e R s m args below meth c H locs cells slots Q (F0 m pc ls rest)) : W p l e R s m args below meth c H locs cells slots Q (F0 m pc ls (.float x :: .int i :: .null :: rest)) := by
  intro T hT X
  obtain ⟨t, st, q⟩ := k T hT X
  exact ⟨t, X.fastoreNull hexec (g := F0 m pc ls (.float x :: .int i :: .null :: rest)) rfl (rest := rest) rfl (by rw [hb]; exact hdg) t st, q⟩
theorem vx_dastoreN (hexec : p.tables.exec = Jvm.exec) (hb : c.code = cc) {x : UInt64} {i : Int32} (hdg : decode cc pc = .ok (.dastore, 1)) (k : vx_NoteN p l e R s m args below meth c H locs cells slots Q (F0 m pc ls rest)) : W p l e R s m args below meth c H locs cells slots Q (F0 m pc ls (.double x :: .int i :: .null :: rest)) := by
  intro T hT X
  obtain ⟨t, st, q⟩ := k T hT X
  exact ⟨t, X.dastoreNull hexec (g := F0 m pc ls (.double x :: .int i :: .null :: rest)) rfl (rest := rest) rfl (by rw [hb]; exact hdg) t st, q⟩
theorem vx_bastoreN (hexec : p.tables.exec = Jvm.exec) (hb : c.code = cc) {x : Int32} {i : Int32} (hdg : decode cc pc = .ok (.bastore, 1)) (k : vx_NoteN p l e R s m args below meth c H locs cells slots Q (F0 m pc ls rest)) : W p l e R s m args below meth c H locs cells slots Q (F0 m pc ls (.int x :: .int i :: .null :: rest)) := by
  intro T hT X
  obtain ⟨t, st, q⟩ := k T hT X
  exact ⟨t, X.bastoreNull hexec (g := F0 m pc ls (.int x :: .int i :: .null :: rest)) rfl (rest := rest) rfl (by rw [hb]; exact hdg) t st, q⟩
theorem vx_castoreN (hexec : p.tables.exec = Jvm.exec) (hb : c.code = cc) {x : Int32} {i : Int32} (hdg : decode cc pc = .ok (.castore, 1)) (k : vx_NoteN p l e R s m args below meth c H locs cells slots Q (F0 m pc ls rest)) : W p l e R s m args below meth c H locs cells slots Q (F0 m pc ls (.int x :: .int i :: .null :: rest)) := by
  intro T hT X
  obtain ⟨t, st, q⟩ := k T hT X
  exact ⟨t, X.castoreNull hexec (g := F0 m pc ls (.int x :: .int i :: .null :: rest)) rfl (rest := rest) rfl (by rw [hb]; exact hdg) t st, q⟩
theorem vx_sastoreN (hexec : p.tables.exec = Jvm.exec) (hb : c.code = cc) {x : Int32} {i : Int32} (hdg : decode cc pc = .ok (.sastore, 1)) (k : vx_NoteN p l e R s m args below meth c H locs cells slots Q (F0 m pc ls rest)) : W p l e R s m args below meth c H locs cells slots Q (F0 m pc ls (.int x :: .int i :: .null :: rest)) := by
  intro T hT X
  obtain ⟨t, st, q⟩ := k T hT X
  exact ⟨t, X.sastoreNull hexec (g := F0 m pc ls (.int x :: .int i :: .null :: rest)) rfl (rest := rest) rfl (by rw [hb]; exact hdg) t st, q⟩
theorem vx_invokeN {own C : String} {index maxL : Nat} {y : MethodName} {bytes : ByteArray} {ret : Option FieldType} (hexec : p.tables.exec = Jvm.exec) (hb : c.code = cc) (hown : s.vm.findClass own = some m.cls) (hlink : (Cond.methodLink own index y).before args s = true) (hinst : (Cond.instanceMethod y).before args s = true) (hcode : (Cond.code y bytes maxL ret).before args s = true) (hsel : (Cond.selects C y y).before args s = true)
    (hx : y.cls ≠ "java/lang/invoke/MethodHandle" ∧ y.cls ≠ "java/lang/invoke/VarHandle") {As : List Value} (hlen : (parseMethodDescriptor y.desc).map (fun d => d.parameters.length) = some As.length) (hdg : decode cc pc = .ok (.invokevirtual index, 3))
    (k : vx_NoteN p l e R s m args below meth c H locs cells slots Q (F0 m pc ls rest)) {st0 : List Value} (hst : st0 = As.reverse ++ .null :: rest) : W p l e R s m args below meth c H locs cells slots Q (F0 m pc ls st0) := by
  intro T hT X
  obtain ⟨r0, r, hn, hrm, hstR, hsigR⟩ := va_Decl.of hinst hcode
  obtain ⟨c2, r2, m2, q1, q2, q3, q4, kP, hkP, hkPi⟩ := Cond.selects_spec hsel
  cases hn.symm.trans q3
  have hl9 : As.length = r.sig.parameters.length := by
    rw [hsigR] at hlen
    exact (Option.some.inj hlen).symm
  obtain ⟨vm', X1, st1⟩ := X.invokevirtualNull hexec hown hlink hn hrm hstR hkP hkPi hx (g := F0 m pc ls st0) rfl (argsL := As) (rest := rest) hl9 hst (by rw [hb]; exact hdg)
  obtain ⟨t, st, q⟩ := k (T.setVm vm') hT X1
  exact ⟨t, st1 t st, q⟩
theorem vx_newarrayZ {atype : ArrayType} (hexec : p.tables.exec = Jvm.exec) (hb : c.code = cc) {n : Int32} (h0 : n < 0) (hdg : decode cc pc = .ok (.newarray atype, 2)) (k : ∀ tx : String, tx = toString n → vx_Note p l e R s m args below meth c H locs cells slots Q (F0 m pc ls rest) "java/lang/NegativeArraySizeException" tx) : W p l e R s m args below meth c H locs cells slots Q (F0 m pc ls (.int n :: rest)) := by
  intro T hT X
  obtain ⟨t, st, q⟩ := k _ rfl T hT X
  exact ⟨t, X.newarrayNegative hexec (g := F0 m pc ls (.int n :: rest)) rfl h0 (rest := rest) rfl (by rw [hb]; exact hdg) t st, q⟩
end
end VXM
/-! ===== END ===== -/
end
section
def RX0 : String := "RentStream$Bill"
def TX0 : u_T := fun k => match k with
  | 0 => ("RentStream$Bill", "rent", "I", false)
  | 1 => ("RentStream$Bill", "lowered", "I", false)
  | 2 => ("RentStream$Bill", "benefit", "I", false)
  | _ => ("RentStream$Bill", "heat", "I", false)
def tyX0 : Nat → FieldType := fun k => match k with
  | 0 => .int
  | 1 => .int
  | 2 => .int
  | _ => .int
abbrev wsX00 : List Cond := u_ws RX0 TX0 4
theorem nmX0 : ∀ a, a < 4 → ∀ b, b < 4 → a ≠ b → (TX0 a).2.1 ≠ (TX0 b).2.1 := by decide +kernel
theorem tyX0_ok : ∀ k, k < 4 → parseFieldDescriptor (TX0 k).2.2.1 = some (tyX0 k) := by decide +kernel
abbrev cX0_init : ByteArray := prog_2_method_1_code
def yX0_init : MethodName := ⟨RX0, "<init>", "()V"⟩
abbrev cX0_ofTenant : ByteArray := prog_2_method_2_code
def yX0_ofTenant : MethodName := ⟨RX0, "ofTenant", "()I"⟩
abbrev cX0_amount : ByteArray := prog_2_method_3_code
def yX0_amount : MethodName := ⟨RX0, "amount", "(I)I"⟩
def RX1 : String := "RentStream$Flat"
def TX1 : u_T := fun k => match k with
  | 0 => ("RentStream$Flat", "rooms", "I", true)
  | 1 => ("RentStream$Flat", "uses", "LRentStream$Months;", true)
  | 2 => ("RentStream$Flat", "pointsOff", "LRentStream$Months;", true)
  | 3 => ("RentStream$Flat", "shown", "I", false)
  | 4 => ("RentStream$Flat", "counted", "I", false)
  | _ => ("RentStream$Flat", "lastReadIn", "I", false)
def tyX1 : Nat → FieldType := fun k => match k with
  | 0 => .int
  | 1 => .object "RentStream$Months"
  | 2 => .object "RentStream$Months"
  | 3 => .int
  | 4 => .int
  | _ => .int
abbrev wsX10 : List Cond := u_ws RX1 TX1 6
theorem nmX1 : ∀ a, a < 6 → ∀ b, b < 6 → a ≠ b → (TX1 a).2.1 ≠ (TX1 b).2.1 := by decide +kernel
theorem tyX1_ok : ∀ k, k < 6 → parseFieldDescriptor (TX1 k).2.2.1 = some (tyX1 k) := by decide +kernel
abbrev cX1_init : ByteArray := prog_3_method_1_code
def yX1_init : MethodName := ⟨RX1, "<init>", "(I)V"⟩
abbrev cX1_readMeter : ByteArray := prog_3_method_2_code
def yX1_readMeter : MethodName := ⟨RX1, "readMeter", "(II)I"⟩
abbrev cX1_findUse : ByteArray := prog_3_method_3_code
def yX1_findUse : MethodName := ⟨RX1, "findUse", "(I)V"⟩
abbrev cX1_guessedUse : ByteArray := prog_3_method_4_code
def yX1_guessedUse : MethodName := ⟨RX1, "guessedUse", "(I)I"⟩
def RX2 : String := "RentStream$HeatShare"
def TX2 : u_T := fun k => match k with
  | 0 => ("RentStream$HeatShare", "cents", "I", false)
  | 1 => ("RentStream$HeatShare", "weight", "I", false)
  | _ => ("RentStream$HeatShare", "remainder", "J", false)
def tyX2 : Nat → FieldType := fun k => match k with
  | 0 => .int
  | 1 => .int
  | _ => .long
abbrev wsX20 : List Cond := u_ws RX2 TX2 3
theorem nmX2 : ∀ a, a < 3 → ∀ b, b < 3 → a ≠ b → (TX2 a).2.1 ≠ (TX2 b).2.1 := by decide +kernel
theorem tyX2_ok : ∀ k, k < 3 → parseFieldDescriptor (TX2 k).2.2.1 = some (tyX2 k) := by decide +kernel
abbrev cX2_init : ByteArray := prog_4_method_1_code
def yX2_init : MethodName := ⟨RX2, "<init>", "()V"⟩
abbrev cX2_takeWhole : ByteArray := prog_4_method_2_code
def yX2_takeWhole : MethodName := ⟨RX2, "takeWhole", "(IJ)I"⟩
abbrev cX2_isAheadOf : ByteArray := prog_4_method_3_code
def yX2_isAheadOf : MethodName := ⟨RX2, "isAheadOf", "(LRentStream$HeatShare;)Z"⟩
abbrev cX2_takeOneMore : ByteArray := prog_4_method_4_code
def yX2_takeOneMore : MethodName := ⟨RX2, "takeOneMore", "()V"⟩
def RX3 : String := "RentStream$Lease"
def TX3 : u_T := fun k => match k with
  | 0 => ("RentStream$Lease", "home", "LRentStream$Flat;", true)
  | 1 => ("RentStream$Lease", "last", "I", false)
  | 2 => ("RentStream$Lease", "told", "LRentStream$Months;", true)
  | 3 => ("RentStream$Lease", "plan", "LRentStream$Plan;", true)
  | 4 => ("RentStream$Lease", "heatShare", "LRentStream$HeatShare;", true)
  | 5 => ("RentStream$Lease", "tenantAccount", "J", false)
  | 6 => ("RentStream$Lease", "deskAccount", "J", false)
  | 7 => ("RentStream$Lease", "paid", "J", false)
  | 8 => ("RentStream$Lease", "rent", "I", true)
  | 9 => ("RentStream$Lease", "first", "I", true)
  | _ => ("RentStream$Lease", "bills", "[LRentStream$Bill;", true)
def tyX3 : Nat → FieldType := fun k => match k with
  | 0 => .object "RentStream$Flat"
  | 1 => .int
  | 2 => .object "RentStream$Months"
  | 3 => .object "RentStream$Plan"
  | 4 => .object "RentStream$HeatShare"
  | 5 => .long
  | 6 => .long
  | 7 => .long
  | 8 => .int
  | 9 => .int
  | _ => .array (.object "RentStream$Bill")
abbrev wsX30 : List Cond := u_ws RX3 TX3 11
theorem nmX3 : ∀ a, a < 11 → ∀ b, b < 11 → a ≠ b → (TX3 a).2.1 ≠ (TX3 b).2.1 := by decide +kernel
theorem tyX3_ok : ∀ k, k < 11 → parseFieldDescriptor (TX3 k).2.2.1 = some (tyX3 k) := by decide +kernel
abbrev cX3_init : ByteArray := prog_5_method_1_code
def yX3_init : MethodName := ⟨RX3, "<init>", "(LRentStream$Flat;II)V"⟩
abbrev cX3_runsIn : ByteArray := prog_5_method_2_code
def yX3_runsIn : MethodName := ⟨RX3, "runsIn", "(I)Z"⟩
abbrev cX3_useIn : ByteArray := prog_5_method_3_code
def yX3_useIn : MethodName := ⟨RX3, "useIn", "(I)I"⟩
abbrev cX3_rentAt : ByteArray := prog_5_method_4_code
def yX3_rentAt : MethodName := ⟨RX3, "rentAt", "(I)I"⟩
abbrev cX3_incomeIn : ByteArray := prog_5_method_5_code
def yX3_incomeIn : MethodName := ⟨RX3, "incomeIn", "(I)I"⟩
abbrev cX3_billOf : ByteArray := prog_5_method_6_code
def yX3_billOf : MethodName := ⟨RX3, "billOf", "(I)LRentStream$Bill;"⟩
abbrev cX3_putBill : ByteArray := prog_5_method_7_code
def yX3_putBill : MethodName := ⟨RX3, "putBill", "(ILRentStream$Bill;)V"⟩
abbrev cX3_benefitsAnew : ByteArray := prog_5_method_8_code
def yX3_benefitsAnew : MethodName := ⟨RX3, "benefitsAnew", "(II)J"⟩
def RX4 : String := "RentStream$Months"
def TX4 : u_T := fun k => match k with
  | _ => ("RentStream$Months", "numbers", "[I", true)
def tyX4 : Nat → FieldType := fun k => match k with
  | _ => .array .int
abbrev wsX40 : List Cond := u_ws RX4 TX4 1
theorem nmX4 : ∀ a, a < 1 → ∀ b, b < 1 → a ≠ b → (TX4 a).2.1 ≠ (TX4 b).2.1 := by decide +kernel
theorem tyX4_ok : ∀ k, k < 1 → parseFieldDescriptor (TX4 k).2.2.1 = some (tyX4 k) := by decide +kernel
abbrev cX4_init : ByteArray := prog_6_method_1_code
def yX4_init : MethodName := ⟨RX4, "<init>", "(I)V"⟩
abbrev cX4_in : ByteArray := prog_6_method_2_code
def yX4_in : MethodName := ⟨RX4, "in", "(I)I"⟩
abbrev cX4_put : ByteArray := prog_6_method_3_code
def yX4_put : MethodName := ⟨RX4, "put", "(II)V"⟩
def RX5 : String := "RentStream$Plan"
def TX5 : u_T := fun k => match k with
  | 0 => ("RentStream$Plan", "state", "I", false)
  | 1 => ("RentStream$Plan", "owedAtFirst", "J", false)
  | 2 => ("RentStream$Plan", "part", "J", false)
  | _ => ("RentStream$Plan", "monthsEnded", "I", false)
def tyX5 : Nat → FieldType := fun k => match k with
  | 0 => .int
  | 1 => .long
  | 2 => .long
  | _ => .int
abbrev wsX50 : List Cond := u_ws RX5 TX5 4
theorem nmX5 : ∀ a, a < 4 → ∀ b, b < 4 → a ≠ b → (TX5 a).2.1 ≠ (TX5 b).2.1 := by decide +kernel
theorem tyX5_ok : ∀ k, k < 4 → parseFieldDescriptor (TX5 k).2.2.1 = some (tyX5 k) := by decide +kernel
abbrev cX5_init : ByteArray := prog_7_method_1_code
def yX5_init : MethodName := ⟨RX5, "<init>", "()V"⟩
abbrev cX5_begin : ByteArray := prog_7_method_2_code
def yX5_begin : MethodName := ⟨RX5, "begin", "(JJ)V"⟩
abbrev cX5_endMonth : ByteArray := prog_7_method_3_code
def yX5_endMonth : MethodName := ⟨RX5, "endMonth", "(J)V"⟩
def RX6 : String := "RentStream$Repair"
def TX6 : u_T := fun k => match k with
  | 0 => ("RentStream$Repair", "isMended", "Z", false)
  | 1 => ("RentStream$Repair", "daysTaken", "I", false)
  | 2 => ("RentStream$Repair", "home", "LRentStream$Flat;", true)
  | 3 => ("RentStream$Repair", "grade", "I", true)
  | _ => ("RentStream$Repair", "reportedOn", "I", true)
def tyX6 : Nat → FieldType := fun k => match k with
  | 0 => .boolean
  | 1 => .int
  | 2 => .object "RentStream$Flat"
  | 3 => .int
  | _ => .int
abbrev wsX60 : List Cond := u_ws RX6 TX6 5
theorem nmX6 : ∀ a, a < 5 → ∀ b, b < 5 → a ≠ b → (TX6 a).2.1 ≠ (TX6 b).2.1 := by decide +kernel
theorem tyX6_ok : ∀ k, k < 5 → parseFieldDescriptor (TX6 k).2.2.1 = some (tyX6 k) := by decide +kernel
abbrev cX6_init : ByteArray := prog_8_method_1_code
def yX6_init : MethodName := ⟨RX6, "<init>", "(LRentStream$Flat;II)V"⟩
abbrev cX6_takePoints : ByteArray := prog_8_method_2_code
def yX6_takePoints : MethodName := ⟨RX6, "takePoints", "(II)V"⟩
abbrev cX6_clock : ByteArray := prog_8_method_3_code
def yX6_clock : MethodName := ⟨RX6, "clock", "()I"⟩
abbrev cX6_pointsADay : ByteArray := prog_8_method_4_code
def yX6_pointsADay : MethodName := ⟨RX6, "pointsADay", "()I"⟩
def RX7 : String := "RentStream"
def TX7 : u_T := fun k => match k with
  | 0 => ("RentStream", "flats", "Ljava/util/ArrayList;", true)
  | 1 => ("RentStream", "leases", "Ljava/util/ArrayList;", true)
  | 2 => ("RentStream", "repairs", "Ljava/util/ArrayList;", true)
  | 3 => ("RentStream", "indexes", "LRentStream$Months;", true)
  | 4 => ("RentStream", "heatCosts", "LRentStream$Months;", true)
  | 5 => ("RentStream", "lineText", "Ljava/lang/StringBuilder;", true)
  | 6 => ("RentStream", "settledAnew", "LRentStream$Bill;", true)
  | 7 => ("RentStream", "nextIndex", "I", false)
  | 8 => ("RentStream", "day", "I", false)
  | _ => ("RentStream", "ownerAccount", "J", false)
def tyX7 : Nat → FieldType := fun k => match k with
  | 0 => .object "java/util/ArrayList"
  | 1 => .object "java/util/ArrayList"
  | 2 => .object "java/util/ArrayList"
  | 3 => .object "RentStream$Months"
  | 4 => .object "RentStream$Months"
  | 5 => .object "java/lang/StringBuilder"
  | 6 => .object "RentStream$Bill"
  | 7 => .int
  | 8 => .int
  | _ => .long
abbrev wsX70 : List Cond := u_ws RX7 TX7 10
theorem nmX7 : ∀ a, a < 10 → ∀ b, b < 10 → a ≠ b → (TX7 a).2.1 ≠ (TX7 b).2.1 := by decide +kernel
theorem tyX7_ok : ∀ k, k < 10 → parseFieldDescriptor (TX7 k).2.2.1 = some (tyX7 k) := by decide +kernel
abbrev cX7_init : ByteArray := prog_1_method_1_code
def yX7_init : MethodName := ⟨RX7, "<init>", "()V"⟩
abbrev cX7_flat : ByteArray := prog_1_method_2_code
def yX7_flat : MethodName := ⟨RX7, "flat", "(I)I"⟩
abbrev cX7_lease : ByteArray := prog_1_method_3_code
def yX7_lease : MethodName := ⟨RX7, "lease", "(II)I"⟩
abbrev cX7_end : ByteArray := prog_1_method_4_code
def yX7_end : MethodName := ⟨RX7, "end", "(I)I"⟩
abbrev cX7_index : ByteArray := prog_1_method_5_code
def yX7_index : MethodName := ⟨RX7, "index", "(I)I"⟩
abbrev cX7_read : ByteArray := prog_1_method_6_code
def yX7_read : MethodName := ⟨RX7, "read", "(II)I"⟩
abbrev cX7_heat : ByteArray := prog_1_method_7_code
def yX7_heat : MethodName := ⟨RX7, "heat", "(I)I"⟩
abbrev cX7_report : ByteArray := prog_1_method_8_code
def yX7_report : MethodName := ⟨RX7, "report", "(II)I"⟩
abbrev cX7_mend : ByteArray := prog_1_method_9_code
def yX7_mend : MethodName := ⟨RX7, "mend", "(I)I"⟩
abbrev cX7_income : ByteArray := prog_1_method_10_code
def yX7_income : MethodName := ⟨RX7, "income", "(III)J"⟩
abbrev cX7_pay : ByteArray := prog_1_method_11_code
def yX7_pay : MethodName := ⟨RX7, "pay", "(II)J"⟩
abbrev cX7_plan : ByteArray := prog_1_method_12_code
def yX7_plan : MethodName := ⟨RX7, "plan", "(II)J"⟩
abbrev cX7_pass : ByteArray := prog_1_method_13_code
def yX7_pass : MethodName := ⟨RX7, "pass", "(I)I"⟩
abbrev cX7_owes : ByteArray := prog_1_method_14_code
def yX7_owes : MethodName := ⟨RX7, "owes", "(I)J"⟩
abbrev cX7_owesAnew : ByteArray := prog_1_method_15_code
def yX7_owesAnew : MethodName := ⟨RX7, "owesAnew", "(I)J"⟩
abbrev cX7_desk : ByteArray := prog_1_method_16_code
def yX7_desk : MethodName := ⟨RX7, "desk", "(I)J"⟩
abbrev cX7_owner : ByteArray := prog_1_method_17_code
def yX7_owner : MethodName := ⟨RX7, "owner", "()J"⟩
abbrev cX7_bill : ByteArray := prog_1_method_18_code
def yX7_bill : MethodName := ⟨RX7, "bill", "(III)J"⟩
abbrev cX7_line : ByteArray := prog_1_method_19_code
def yX7_line : MethodName := ⟨RX7, "line", "(III)C"⟩
abbrev cX7_use : ByteArray := prog_1_method_20_code
def yX7_use : MethodName := ⟨RX7, "use", "(II)I"⟩
abbrev cX7_points : ByteArray := prog_1_method_21_code
def yX7_points : MethodName := ⟨RX7, "points", "(I)I"⟩
abbrev cX7_planOf : ByteArray := prog_1_method_22_code
def yX7_planOf : MethodName := ⟨RX7, "planOf", "(I)I"⟩
abbrev cX7_flatAt : ByteArray := prog_1_method_23_code
def yX7_flatAt : MethodName := ⟨RX7, "flatAt", "(I)LRentStream$Flat;"⟩
abbrev cX7_leaseAt : ByteArray := prog_1_method_24_code
def yX7_leaseAt : MethodName := ⟨RX7, "leaseAt", "(I)LRentStream$Lease;"⟩
abbrev cX7_needMonth : ByteArray := prog_1_method_25_code
def yX7_needMonth : MethodName := ⟨RX7, "needMonth", "(I)V"⟩
abbrev cX7_monthNow : ByteArray := prog_1_method_26_code
def yX7_monthNow : MethodName := ⟨RX7, "monthNow", "()I"⟩
abbrev cX7_isLetOn : ByteArray := prog_1_method_27_code
def yX7_isLetOn : MethodName := ⟨RX7, "isLetOn", "(LRentStream$Flat;)Z"⟩
abbrev cX7_postToTenant : ByteArray := prog_1_method_28_code
def yX7_postToTenant : MethodName := ⟨RX7, "postToTenant", "(LRentStream$Lease;J)V"⟩
abbrev cX7_postToDesk : ByteArray := prog_1_method_29_code
def yX7_postToDesk : MethodName := ⟨RX7, "postToDesk", "(LRentStream$Lease;J)V"⟩
abbrev cX7_endDay : ByteArray := prog_1_method_30_code
def yX7_endDay : MethodName := ⟨RX7, "endDay", "()V"⟩
abbrev cX7_endMonth : ByteArray := prog_1_method_31_code
def yX7_endMonth : MethodName := ⟨RX7, "endMonth", "(I)V"⟩
abbrev cX7_makeBill : ByteArray := prog_1_method_32_code
def yX7_makeBill : MethodName := ⟨RX7, "makeBill", "(LRentStream$Lease;I)V"⟩
abbrev cX7_beginMonth : ByteArray := prog_1_method_33_code
def yX7_beginMonth : MethodName := ⟨RX7, "beginMonth", "(I)V"⟩
abbrev cX7_payAhead : ByteArray := prog_1_method_34_code
def yX7_payAhead : MethodName := ⟨RX7, "payAhead", "(LRentStream$Lease;I)V"⟩
abbrev cX7_shareHeat : ByteArray := prog_1_method_35_code
def yX7_shareHeat : MethodName := ⟨RX7, "shareHeat", "(I)V"⟩
abbrev cX7_usesOfAll : ByteArray := prog_1_method_36_code
def yX7_usesOfAll : MethodName := ⟨RX7, "usesOfAll", "(I)J"⟩
abbrev cX7_shareByWeights : ByteArray := prog_1_method_37_code
def yX7_shareByWeights : MethodName := ⟨RX7, "shareByWeights", "(I)V"⟩
abbrev cX7_giveOneMore : ByteArray := prog_1_method_38_code
def yX7_giveOneMore : MethodName := ⟨RX7, "giveOneMore", "()V"⟩
abbrev cX7_settle : ByteArray := prog_1_method_39_code
def yX7_settle : MethodName := ⟨RX7, "settle", "(LRentStream$Lease;ILRentStream$Bill;)V"⟩
abbrev cX7_loweredBy : ByteArray := prog_1_method_40_code
def yX7_loweredBy : MethodName := ⟨RX7, "loweredBy", "(II)I"⟩
abbrev cX7_benefitFor : ByteArray := prog_1_method_41_code
def yX7_benefitFor : MethodName := ⟨RX7, "benefitFor", "(II)I"⟩
abbrev cX7_writeLine : ByteArray := prog_1_method_42_code
def yX7_writeLine : MethodName := ⟨RX7, "writeLine", "(Ljava/lang/StringBuilder;IILRentStream$Bill;)V"⟩
abbrev cX7_writeAmount : ByteArray := prog_1_method_43_code
def yX7_writeAmount : MethodName := ⟨RX7, "writeAmount", "(Ljava/lang/StringBuilder;CI)V"⟩
abbrev cX7_writeWhole : ByteArray := prog_1_method_44_code
def yX7_writeWhole : MethodName := ⟨RX7, "writeWhole", "(Ljava/lang/StringBuilder;I)V"⟩
abbrev cX7_writeDigits : ByteArray := prog_1_method_45_code
def yX7_writeDigits : MethodName := ⟨RX7, "writeDigits", "(Ljava/lang/StringBuilder;II)V"⟩
def RX8 : String := "RentStreamModel"
def TX8 : u_T := fun k => match k with
  | 0 => ("RentStreamModel", "thrown", "I", false)
  | 1 => ("RentStreamModel", "day", "I", false)
  | 2 => ("RentStreamModel", "flats", "I", false)
  | 3 => ("RentStreamModel", "rooms", "[I", true)
  | 4 => ("RentStreamModel", "added", "[I", true)
  | 5 => ("RentStreamModel", "shown", "[I", true)
  | 6 => ("RentStreamModel", "readIn", "[I", true)
  | 7 => ("RentStreamModel", "counted", "[I", true)
  | 8 => ("RentStreamModel", "points", "[I", true)
  | 9 => ("RentStreamModel", "uses", "[I", true)
  | 10 => ("RentStreamModel", "indexes", "[I", true)
  | 11 => ("RentStreamModel", "cost", "I", false)
  | 12 => ("RentStreamModel", "repairs", "I", false)
  | 13 => ("RentStreamModel", "repairOf", "[I", true)
  | 14 => ("RentStreamModel", "grades", "[I", true)
  | 15 => ("RentStreamModel", "reported", "[I", true)
  | 16 => ("RentStreamModel", "took", "[I", true)
  | 17 => ("RentStreamModel", "areMended", "[Z", true)
  | 18 => ("RentStreamModel", "leases", "I", false)
  | 19 => ("RentStreamModel", "flatOf", "[I", true)
  | 20 => ("RentStreamModel", "rents", "[I", true)
  | 21 => ("RentStreamModel", "starts", "[I", true)
  | 22 => ("RentStreamModel", "lasts", "[I", true)
  | 23 => ("RentStreamModel", "owed", "[J", true)
  | 24 => ("RentStreamModel", "desk", "[J", true)
  | 25 => ("RentStreamModel", "told", "[I", true)
  | 26 => ("RentStreamModel", "areBilled", "[Z", true)
  | 27 => ("RentStreamModel", "billRent", "[I", true)
  | 28 => ("RentStreamModel", "billLess", "[I", true)
  | 29 => ("RentStreamModel", "billBenefit", "[I", true)
  | 30 => ("RentStreamModel", "billHeat", "[I", true)
  | 31 => ("RentStreamModel", "plans", "[I", true)
  | 32 => ("RentStreamModel", "planFirst", "[J", true)
  | 33 => ("RentStreamModel", "planPart", "[J", true)
  | 34 => ("RentStreamModel", "planEnds", "[I", true)
  | 35 => ("RentStreamModel", "weights", "[J", true)
  | 36 => ("RentStreamModel", "shares", "[J", true)
  | 37 => ("RentStreamModel", "rests", "[J", true)
  | 38 => ("RentStreamModel", "signs", "[C", true)
  | _ => ("RentStreamModel", "signsMany", "I", false)
def tyX8 : Nat → FieldType := fun k => match k with
  | 0 => .int
  | 1 => .int
  | 2 => .int
  | 3 => .array .int
  | 4 => .array .int
  | 5 => .array .int
  | 6 => .array .int
  | 7 => .array .int
  | 8 => .array .int
  | 9 => .array .int
  | 10 => .array .int
  | 11 => .int
  | 12 => .int
  | 13 => .array .int
  | 14 => .array .int
  | 15 => .array .int
  | 16 => .array .int
  | 17 => .array .boolean
  | 18 => .int
  | 19 => .array .int
  | 20 => .array .int
  | 21 => .array .int
  | 22 => .array .int
  | 23 => .array .long
  | 24 => .array .long
  | 25 => .array .int
  | 26 => .array .boolean
  | 27 => .array .int
  | 28 => .array .int
  | 29 => .array .int
  | 30 => .array .int
  | 31 => .array .int
  | 32 => .array .long
  | 33 => .array .long
  | 34 => .array .int
  | 35 => .array .long
  | 36 => .array .long
  | 37 => .array .long
  | 38 => .array .char
  | _ => .int
abbrev wsX80 : List Cond := u_ws RX8 TX8 40
theorem nmX8 : ∀ a, a < 40 → ∀ b, b < 40 → a ≠ b → (TX8 a).2.1 ≠ (TX8 b).2.1 := by decide +kernel
theorem tyX8_ok : ∀ k, k < 40 → parseFieldDescriptor (TX8 k).2.2.1 = some (tyX8 k) := by decide +kernel
abbrev cX8_init : ByteArray := prog_10_method_1_code
def yX8_init : MethodName := ⟨RX8, "<init>", "()V"⟩
abbrev cX8_thrown : ByteArray := prog_10_method_2_code
def yX8_thrown : MethodName := ⟨RX8, "thrown", "()I"⟩
abbrev cX8_holds : ByteArray := prog_10_method_3_code
def yX8_holds : MethodName := ⟨RX8, "holds", "(I)Z"⟩
abbrev cX8_in : ByteArray := prog_10_method_4_code
def yX8_in : MethodName := ⟨RX8, "in", "(III)Z"⟩
abbrev cX8_isFlat : ByteArray := prog_10_method_5_code
def yX8_isFlat : MethodName := ⟨RX8, "isFlat", "(I)Z"⟩
abbrev cX8_isLease : ByteArray := prog_10_method_6_code
def yX8_isLease : MethodName := ⟨RX8, "isLease", "(I)Z"⟩
abbrev cX8_month : ByteArray := prog_10_method_7_code
def yX8_month : MethodName := ⟨RX8, "month", "()I"⟩
abbrev cX8_isMonth : ByteArray := prog_10_method_8_code
def yX8_isMonth : MethodName := ⟨RX8, "isMonth", "(I)Z"⟩
abbrev cX8_at : ByteArray := prog_10_method_9_code
def yX8_at : MethodName := ⟨RX8, "at", "(II)I"⟩
abbrev cX8_flat : ByteArray := prog_10_method_10_code
def yX8_flat : MethodName := ⟨RX8, "flat", "(I)I"⟩
abbrev cX8_runs : ByteArray := prog_10_method_11_code
def yX8_runs : MethodName := ⟨RX8, "runs", "(II)Z"⟩
abbrev cX8_isLet : ByteArray := prog_10_method_12_code
def yX8_isLet : MethodName := ⟨RX8, "isLet", "(I)Z"⟩
abbrev cX8_lease : ByteArray := prog_10_method_13_code
def yX8_lease : MethodName := ⟨RX8, "lease", "(II)I"⟩
abbrev cX8_end : ByteArray := prog_10_method_14_code
def yX8_end : MethodName := ⟨RX8, "end", "(I)I"⟩
abbrev cX8_index : ByteArray := prog_10_method_15_code
def yX8_index : MethodName := ⟨RX8, "index", "(I)I"⟩
abbrev cX8_rentIn : ByteArray := prog_10_method_16_code
def yX8_rentIn : MethodName := ⟨RX8, "rentIn", "(II)I"⟩
abbrev cX8_read : ByteArray := prog_10_method_17_code
def yX8_read : MethodName := ⟨RX8, "read", "(II)I"⟩
abbrev cX8_heat : ByteArray := prog_10_method_18_code
def yX8_heat : MethodName := ⟨RX8, "heat", "(I)I"⟩
abbrev cX8_report : ByteArray := prog_10_method_19_code
def yX8_report : MethodName := ⟨RX8, "report", "(II)I"⟩
abbrev cX8_mend : ByteArray := prog_10_method_20_code
def yX8_mend : MethodName := ⟨RX8, "mend", "(I)I"⟩
abbrev cX8_wears : ByteArray := prog_10_method_21_code
def yX8_wears : MethodName := ⟨RX8, "wears", "()V"⟩
abbrev cX8_findsUse : ByteArray := prog_10_method_22_code
def yX8_findsUse : MethodName := ⟨RX8, "findsUse", "(II)V"⟩
abbrev cX8_sharesBy : ByteArray := prog_10_method_23_code
def yX8_sharesBy : MethodName := ⟨RX8, "sharesBy", "(J)V"⟩
abbrev cX8_weighs : ByteArray := prog_10_method_24_code
def yX8_weighs : MethodName := ⟨RX8, "weighs", "(IZ)J"⟩
abbrev cX8_sharesHeat : ByteArray := prog_10_method_25_code
def yX8_sharesHeat : MethodName := ⟨RX8, "sharesHeat", "(I)V"⟩
abbrev cX8_incomeIn : ByteArray := prog_10_method_26_code
def yX8_incomeIn : MethodName := ⟨RX8, "incomeIn", "(II)I"⟩
abbrev cX8_benefitFor : ByteArray := prog_10_method_27_code
def yX8_benefitFor : MethodName := ⟨RX8, "benefitFor", "(II)I"⟩
abbrev cX8_looksAtPlan : ByteArray := prog_10_method_28_code
def yX8_looksAtPlan : MethodName := ⟨RX8, "looksAtPlan", "(I)V"⟩
abbrev cX8_bills : ByteArray := prog_10_method_29_code
def yX8_bills : MethodName := ⟨RX8, "bills", "(II)V"⟩
abbrev cX8_ends : ByteArray := prog_10_method_30_code
def yX8_ends : MethodName := ⟨RX8, "ends", "(I)V"⟩
abbrev cX8_begins : ByteArray := prog_10_method_31_code
def yX8_begins : MethodName := ⟨RX8, "begins", "(I)V"⟩
abbrev cX8_income : ByteArray := prog_10_method_32_code
def yX8_income : MethodName := ⟨RX8, "income", "(III)J"⟩
abbrev cX8_pay : ByteArray := prog_10_method_33_code
def yX8_pay : MethodName := ⟨RX8, "pay", "(II)J"⟩
abbrev cX8_plan : ByteArray := prog_10_method_34_code
def yX8_plan : MethodName := ⟨RX8, "plan", "(II)J"⟩
abbrev cX8_pass : ByteArray := prog_10_method_35_code
def yX8_pass : MethodName := ⟨RX8, "pass", "(I)I"⟩
abbrev cX8_owes : ByteArray := prog_10_method_36_code
def yX8_owes : MethodName := ⟨RX8, "owes", "(I)J"⟩
abbrev cX8_owesAnew : ByteArray := prog_10_method_37_code
def yX8_owesAnew : MethodName := ⟨RX8, "owesAnew", "(I)J"⟩
abbrev cX8_desk : ByteArray := prog_10_method_38_code
def yX8_desk : MethodName := ⟨RX8, "desk", "(I)J"⟩
abbrev cX8_owner : ByteArray := prog_10_method_39_code
def yX8_owner : MethodName := ⟨RX8, "owner", "()J"⟩
abbrev cX8_bill : ByteArray := prog_10_method_40_code
def yX8_bill : MethodName := ⟨RX8, "bill", "(III)J"⟩
abbrev cX8_adds : ByteArray := prog_10_method_41_code
def yX8_adds : MethodName := ⟨RX8, "adds", "(I)V"⟩
abbrev cX8_powerOf : ByteArray := prog_10_method_42_code
def yX8_powerOf : MethodName := ⟨RX8, "powerOf", "(I)I"⟩
abbrev cX8_addsNumber : ByteArray := prog_10_method_43_code
def yX8_addsNumber : MethodName := ⟨RX8, "addsNumber", "(I)V"⟩
abbrev cX8_addsAmount : ByteArray := prog_10_method_44_code
def yX8_addsAmount : MethodName := ⟨RX8, "addsAmount", "(II)V"⟩
abbrev cX8_line : ByteArray := prog_10_method_45_code
def yX8_line : MethodName := ⟨RX8, "line", "(III)C"⟩
abbrev cX8_use : ByteArray := prog_10_method_46_code
def yX8_use : MethodName := ⟨RX8, "use", "(II)I"⟩
abbrev cX8_points : ByteArray := prog_10_method_47_code
def yX8_points : MethodName := ⟨RX8, "points", "(I)I"⟩
abbrev cX8_planOf : ByteArray := prog_10_method_48_code
def yX8_planOf : MethodName := ⟨RX8, "planOf", "(I)I"⟩
def RJx145de : String := "java/io/Serializable"
def TJx145de : u_T := fun k => match k with
  | _ => ("", "", "", false)
def tyJx145de : Nat → FieldType := fun k => match k with
  | _ => .int
abbrev wsJx145de0 : List Cond := u_ws RJx145de TJx145de 0
theorem nmJx145de : ∀ a, a < 0 → ∀ b, b < 0 → a ≠ b → (TJx145de a).2.1 ≠ (TJx145de b).2.1 := by decide +kernel
theorem tyJx145de_ok : ∀ k, k < 0 → parseFieldDescriptor (TJx145de k).2.2.1 = some (tyJx145de k) := by decide +kernel
def RJ5 : String := "java/lang/AbstractStringBuilder"
def TJ5 : u_T := fun k => match k with
  | _ => ("", "", "", false)
def tyJ5 : Nat → FieldType := fun k => match k with
  | _ => .int
abbrev wsJ50 : List Cond := u_ws RJ5 TJ5 0
theorem nmJ5 : ∀ a, a < 0 → ∀ b, b < 0 → a ≠ b → (TJ5 a).2.1 ≠ (TJ5 b).2.1 := by decide +kernel
theorem tyJ5_ok : ∀ k, k < 0 → parseFieldDescriptor (TJ5 k).2.2.1 = some (tyJ5 k) := by decide +kernel
abbrev cJ5_init_d00df : ByteArray := prog_12_method_2_code
def yJ5_init_d00df : MethodName := ⟨RJ5, "<init>", "(I)V"⟩
abbrev cJ5_length_8abf5 : ByteArray := prog_12_method_6_code
def yJ5_length_8abf5 : MethodName := ⟨RJ5, "length", "()I"⟩
abbrev cJ5_ensureCapacityInternal_d00df : ByteArray := prog_12_method_9_code
def yJ5_ensureCapacityInternal_d00df : MethodName := ⟨RJ5, "ensureCapacityInternal", "(I)V"⟩
abbrev cJ5_newCapacity_0f7a4 : ByteArray := prog_12_method_10_code
def yJ5_newCapacity_0f7a4 : MethodName := ⟨RJ5, "newCapacity", "(I)I"⟩
abbrev cJ5_inflate_da8c8 : ByteArray := prog_12_method_11_code
def yJ5_inflate_da8c8 : MethodName := ⟨RJ5, "inflate", "()V"⟩
abbrev cJ5_setLength_d00df : ByteArray := prog_12_method_13_code
def yJ5_setLength_d00df : MethodName := ⟨RJ5, "setLength", "(I)V"⟩
abbrev cJ5_charAt_5068e : ByteArray := prog_12_method_14_code
def yJ5_charAt_5068e : MethodName := ⟨RJ5, "charAt", "(I)C"⟩
abbrev cJ5_append_cf1ce : ByteArray := prog_12_method_22_code
def yJ5_append_cf1ce : MethodName := ⟨RJ5, "append", "(Ljava/lang/String;)Ljava/lang/AbstractStringBuilder;"⟩
abbrev cJ5_appendNull_278bc : ByteArray := prog_12_method_26_code
def yJ5_appendNull_278bc : MethodName := ⟨RJ5, "appendNull", "()Ljava/lang/AbstractStringBuilder;"⟩
abbrev cJ5_append_3fe6f : ByteArray := prog_12_method_31_code
def yJ5_append_3fe6f : MethodName := ⟨RJ5, "append", "(C)Ljava/lang/AbstractStringBuilder;"⟩
abbrev cJ5_append_c97b9 : ByteArray := prog_12_method_32_code
def yJ5_append_c97b9 : MethodName := ⟨RJ5, "append", "(I)Ljava/lang/AbstractStringBuilder;"⟩
abbrev cJ5_getValue_6d5f1 : ByteArray := prog_12_method_64_code
def yJ5_getValue_6d5f1 : MethodName := ⟨RJ5, "getValue", "()[B"⟩
abbrev cJ5_isLatin1_aae02 : ByteArray := prog_12_method_68_code
def yJ5_isLatin1_aae02 : MethodName := ⟨RJ5, "isLatin1", "()Z"⟩
abbrev cJ5_inflateIfNeededFor_a7421 : ByteArray := prog_12_method_71_code
def yJ5_inflateIfNeededFor_a7421 : MethodName := ⟨RJ5, "inflateIfNeededFor", "(Ljava/lang/String;)V"⟩
abbrev cJ5_putStringAt_47b60 : ByteArray := prog_12_method_73_code
def yJ5_putStringAt_47b60 : MethodName := ⟨RJ5, "putStringAt", "(ILjava/lang/String;)V"⟩
def RJx2cfe8 : String := "java/lang/Appendable"
def TJx2cfe8 : u_T := fun k => match k with
  | _ => ("", "", "", false)
def tyJx2cfe8 : Nat → FieldType := fun k => match k with
  | _ => .int
abbrev wsJx2cfe80 : List Cond := u_ws RJx2cfe8 TJx2cfe8 0
theorem nmJx2cfe8 : ∀ a, a < 0 → ∀ b, b < 0 → a ≠ b → (TJx2cfe8 a).2.1 ≠ (TJx2cfe8 b).2.1 := by decide +kernel
theorem tyJx2cfe8_ok : ∀ k, k < 0 → parseFieldDescriptor (TJx2cfe8 k).2.2.1 = some (tyJx2cfe8 k) := by decide +kernel
def RJx00060 : String := "java/lang/ArrayIndexOutOfBoundsException"
def TJx00060 : u_T := fun k => match k with
  | 0 => ("java/lang/Throwable", "cause", "Ljava/lang/Throwable;", false)
  | 1 => ("java/lang/Throwable", "stackTrace", "[Ljava/lang/StackTraceElement;", false)
  | 2 => ("java/lang/Throwable", "suppressedExceptions", "Ljava/util/List;", false)
  | 3 => ("java/lang/Throwable", "detailMessage", "Ljava/lang/String;", false)
  | 4 => ("java/lang/Throwable", "backtrace", "Ljava/lang/Object;", false)
  | _ => ("java/lang/Throwable", "depth", "I", false)
def tyJx00060 : Nat → FieldType := fun k => match k with
  | 0 => .object "java/lang/Throwable"
  | 1 => .array (.object "java/lang/StackTraceElement")
  | 2 => .object "java/util/List"
  | 3 => .object "java/lang/String"
  | 4 => .object "java/lang/Object"
  | _ => .int
abbrev wsJx000600 : List Cond := u_ws RJx00060 TJx00060 6
theorem nmJx00060 : ∀ a, a < 6 → ∀ b, b < 6 → a ≠ b → (TJx00060 a).2.1 ≠ (TJx00060 b).2.1 := by decide +kernel
theorem tyJx00060_ok : ∀ k, k < 6 → parseFieldDescriptor (TJx00060 k).2.2.1 = some (tyJx00060 k) := by decide +kernel
abbrev cJx00060_init_d00df : ByteArray := prog_14_method_3_code
def yJx00060_init_d00df : MethodName := ⟨RJx00060, "<init>", "(I)V"⟩
def RJx9f9b0 : String := "java/lang/CharSequence"
def TJx9f9b0 : u_T := fun k => match k with
  | _ => ("", "", "", false)
def tyJx9f9b0 : Nat → FieldType := fun k => match k with
  | _ => .int
abbrev wsJx9f9b00 : List Cond := u_ws RJx9f9b0 TJx9f9b0 0
theorem nmJx9f9b0 : ∀ a, a < 0 → ∀ b, b < 0 → a ≠ b → (TJx9f9b0 a).2.1 ≠ (TJx9f9b0 b).2.1 := by decide +kernel
theorem tyJx9f9b0_ok : ∀ k, k < 0 → parseFieldDescriptor (TJx9f9b0 k).2.2.1 = some (tyJx9f9b0 k) := by decide +kernel
def RJx8e188 : String := "java/lang/Cloneable"
def TJx8e188 : u_T := fun k => match k with
  | _ => ("", "", "", false)
def tyJx8e188 : Nat → FieldType := fun k => match k with
  | _ => .int
abbrev wsJx8e1880 : List Cond := u_ws RJx8e188 TJx8e188 0
theorem nmJx8e188 : ∀ a, a < 0 → ∀ b, b < 0 → a ≠ b → (TJx8e188 a).2.1 ≠ (TJx8e188 b).2.1 := by decide +kernel
theorem tyJx8e188_ok : ∀ k, k < 0 → parseFieldDescriptor (TJx8e188 k).2.2.1 = some (tyJx8e188 k) := by decide +kernel
def RJxb160c : String := "java/lang/Comparable"
def TJxb160c : u_T := fun k => match k with
  | _ => ("", "", "", false)
def tyJxb160c : Nat → FieldType := fun k => match k with
  | _ => .int
abbrev wsJxb160c0 : List Cond := u_ws RJxb160c TJxb160c 0
theorem nmJxb160c : ∀ a, a < 0 → ∀ b, b < 0 → a ≠ b → (TJxb160c a).2.1 ≠ (TJxb160c b).2.1 := by decide +kernel
theorem tyJxb160c_ok : ∀ k, k < 0 → parseFieldDescriptor (TJxb160c k).2.2.1 = some (tyJxb160c k) := by decide +kernel
def RJ6 : String := "java/lang/Integer"
def TJ6 : u_T := fun k => match k with
  | _ => ("", "", "", false)
def tyJ6 : Nat → FieldType := fun k => match k with
  | _ => .int
abbrev wsJ60 : List Cond := u_ws RJ6 TJ6 0
theorem nmJ6 : ∀ a, a < 0 → ∀ b, b < 0 → a ≠ b → (TJ6 a).2.1 ≠ (TJ6 b).2.1 := by decide +kernel
theorem tyJ6_ok : ∀ k, k < 0 → parseFieldDescriptor (TJ6 k).2.2.1 = some (tyJ6 k) := by decide +kernel
abbrev cJ6_getChars_ba4f3 : ByteArray := prog_22_method_12_code
def yJ6_getChars_ba4f3 : MethodName := ⟨RJ6, "getChars", "(II[B)I"⟩
abbrev cJ6_stringSize_0f7a4 : ByteArray := prog_22_method_13_code
def yJ6_stringSize_0f7a4 : MethodName := ⟨RJ6, "stringSize", "(I)I"⟩
def RJxab1ab : String := "java/lang/Iterable"
def TJxab1ab : u_T := fun k => match k with
  | _ => ("", "", "", false)
def tyJxab1ab : Nat → FieldType := fun k => match k with
  | _ => .int
abbrev wsJxab1ab0 : List Cond := u_ws RJxab1ab TJxab1ab 0
theorem nmJxab1ab : ∀ a, a < 0 → ∀ b, b < 0 → a ≠ b → (TJxab1ab a).2.1 ≠ (TJxab1ab b).2.1 := by decide +kernel
theorem tyJxab1ab_ok : ∀ k, k < 0 → parseFieldDescriptor (TJxab1ab k).2.2.1 = some (tyJxab1ab k) := by decide +kernel
def RJ9 : String := "java/lang/Math"
def TJ9 : u_T := fun k => match k with
  | _ => ("", "", "", false)
def tyJ9 : Nat → FieldType := fun k => match k with
  | _ => .int
abbrev wsJ90 : List Cond := u_ws RJ9 TJ9 0
theorem nmJ9 : ∀ a, a < 0 → ∀ b, b < 0 → a ≠ b → (TJ9 a).2.1 ≠ (TJ9 b).2.1 := by decide +kernel
theorem tyJ9_ok : ∀ k, k < 0 → parseFieldDescriptor (TJ9 k).2.2.1 = some (tyJ9 k) := by decide +kernel
abbrev cJ9_max_7cf53 : ByteArray := prog_24_method_65_code
def yJ9_max_7cf53 : MethodName := ⟨RJ9, "max", "(II)I"⟩
abbrev cJ9_max_f86c9 : ByteArray := prog_24_method_66_code
def yJ9_max_f86c9 : MethodName := ⟨RJ9, "max", "(JJ)J"⟩
abbrev cJ9_min_7cf53 : ByteArray := prog_24_method_69_code
def yJ9_min_7cf53 : MethodName := ⟨RJ9, "min", "(II)I"⟩
abbrev cJ9_min_f86c9 : ByteArray := prog_24_method_70_code
def yJ9_min_f86c9 : MethodName := ⟨RJ9, "min", "(JJ)J"⟩
def RJxd2413 : String := "java/lang/Number"
def TJxd2413 : u_T := fun k => match k with
  | _ => ("", "", "", false)
def tyJxd2413 : Nat → FieldType := fun k => match k with
  | _ => .int
abbrev wsJxd24130 : List Cond := u_ws RJxd2413 TJxd2413 0
theorem nmJxd2413 : ∀ a, a < 0 → ∀ b, b < 0 → a ≠ b → (TJxd2413 a).2.1 ≠ (TJxd2413 b).2.1 := by decide +kernel
theorem tyJxd2413_ok : ∀ k, k < 0 → parseFieldDescriptor (TJxd2413 k).2.2.1 = some (tyJxd2413 k) := by decide +kernel
def RJ0 : String := "java/lang/String"
def TJ0 : u_T := fun k => match k with
  | 0 => ("java/lang/String", "value", "[B", true)
  | 1 => ("java/lang/String", "coder", "B", true)
  | 2 => ("java/lang/String", "hash", "I", false)
  | _ => ("java/lang/String", "hashIsZero", "Z", false)
def tyJ0 : Nat → FieldType := fun k => match k with
  | 0 => .array .byte
  | 1 => .byte
  | 2 => .int
  | _ => .boolean
abbrev wsJ00 : List Cond := u_ws RJ0 TJ0 4
theorem nmJ0 : ∀ a, a < 4 → ∀ b, b < 4 → a ≠ b → (TJ0 a).2.1 ≠ (TJ0 b).2.1 := by decide +kernel
theorem tyJ0_ok : ∀ k, k < 4 → parseFieldDescriptor (TJ0 k).2.2.1 = some (tyJ0 k) := by decide +kernel
abbrev cJ0_init_81219 : ByteArray := prog_27_method_53_code
def yJ0_init_81219 : MethodName := ⟨RJ0, "<init>", "(Ljava/lang/StringBuilder;)V"⟩
abbrev cJ0_length_8abf5 : ByteArray := prog_27_method_54_code
def yJ0_length_8abf5 : MethodName := ⟨RJ0, "length", "()I"⟩
abbrev cJ0_getBytes_840e7 : ByteArray := prog_27_method_147_code
def yJ0_getBytes_840e7 : MethodName := ⟨RJ0, "getBytes", "([BIB)V"⟩
abbrev cJ0_init_db425 : ByteArray := prog_27_method_150_code
def yJ0_init_db425 : MethodName := ⟨RJ0, "<init>", "(Ljava/lang/AbstractStringBuilder;Ljava/lang/Void;)V"⟩
abbrev cJ0_coder_7d493 : ByteArray := prog_27_method_152_code
def yJ0_coder_7d493 : MethodName := ⟨RJ0, "coder", "()B"⟩
abbrev cJ0_checkIndex_df160 : ByteArray := prog_27_method_155_code
def yJ0_checkIndex_df160 : MethodName := ⟨RJ0, "checkIndex", "(II)V"⟩
abbrev cJ0_checkBoundsOffCount_cabcc : ByteArray := prog_27_method_157_code
def yJ0_checkBoundsOffCount_cabcc : MethodName := ⟨RJ0, "checkBoundsOffCount", "(III)I"⟩
abbrev cJ0_checkBoundsBeginEnd_23922 : ByteArray := prog_27_method_158_code
def yJ0_checkBoundsBeginEnd_23922 : MethodName := ⟨RJ0, "checkBoundsBeginEnd", "(III)V"⟩
def RJ4 : String := "java/lang/StringBuilder"
def TJ4 : u_T := fun k => match k with
  | 0 => ("java/lang/AbstractStringBuilder", "value", "[B", false)
  | 1 => ("java/lang/AbstractStringBuilder", "coder", "B", false)
  | 2 => ("java/lang/AbstractStringBuilder", "maybeLatin1", "Z", false)
  | _ => ("java/lang/AbstractStringBuilder", "count", "I", false)
def tyJ4 : Nat → FieldType := fun k => match k with
  | 0 => .array .byte
  | 1 => .byte
  | 2 => .boolean
  | _ => .int
abbrev wsJ40 : List Cond := u_ws RJ4 TJ4 4
theorem nmJ4 : ∀ a, a < 4 → ∀ b, b < 4 → a ≠ b → (TJ4 a).2.1 ≠ (TJ4 b).2.1 := by decide +kernel
theorem tyJ4_ok : ∀ k, k < 4 → parseFieldDescriptor (TJ4 k).2.2.1 = some (tyJ4 k) := by decide +kernel
abbrev cJ4_init_da8c8 : ByteArray := prog_28_method_1_code
def yJ4_init_da8c8 : MethodName := ⟨RJ4, "<init>", "()V"⟩
abbrev cJ4_append_15ec4 : ByteArray := prog_28_method_7_code
def yJ4_append_15ec4 : MethodName := ⟨RJ4, "append", "(Ljava/lang/String;)Ljava/lang/StringBuilder;"⟩
abbrev cJ4_append_cf468 : ByteArray := prog_28_method_14_code
def yJ4_append_cf468 : MethodName := ⟨RJ4, "append", "(C)Ljava/lang/StringBuilder;"⟩
abbrev cJ4_append_bf812 : ByteArray := prog_28_method_15_code
def yJ4_append_bf812 : MethodName := ⟨RJ4, "append", "(I)Ljava/lang/StringBuilder;"⟩
abbrev cJ4_toString_0e30d : ByteArray := prog_28_method_42_code
def yJ4_toString_0e30d : MethodName := ⟨RJ4, "toString", "()Ljava/lang/String;"⟩
abbrev cJ4_charAt_5068e : ByteArray := prog_28_method_88_code
def yJ4_charAt_5068e : MethodName := ⟨RJ4, "charAt", "(I)C"⟩
abbrev cJ4_setLength_d00df : ByteArray := prog_28_method_89_code
def yJ4_setLength_d00df : MethodName := ⟨RJ4, "setLength", "(I)V"⟩
abbrev cJ4_length_8abf5 : ByteArray := prog_28_method_93_code
def yJ4_length_8abf5 : MethodName := ⟨RJ4, "length", "()I"⟩
def RJx7c733 : String := "java/lang/StringIndexOutOfBoundsException"
def TJx7c733 : u_T := fun k => match k with
  | 0 => ("java/lang/Throwable", "backtrace", "Ljava/lang/Object;", false)
  | 1 => ("java/lang/Throwable", "detailMessage", "Ljava/lang/String;", false)
  | 2 => ("java/lang/Throwable", "cause", "Ljava/lang/Throwable;", false)
  | 3 => ("java/lang/Throwable", "stackTrace", "[Ljava/lang/StackTraceElement;", false)
  | 4 => ("java/lang/Throwable", "depth", "I", false)
  | _ => ("java/lang/Throwable", "suppressedExceptions", "Ljava/util/List;", false)
def tyJx7c733 : Nat → FieldType := fun k => match k with
  | 0 => .object "java/lang/Object"
  | 1 => .object "java/lang/String"
  | 2 => .object "java/lang/Throwable"
  | 3 => .array (.object "java/lang/StackTraceElement")
  | 4 => .int
  | _ => .object "java/util/List"
abbrev wsJx7c7330 : List Cond := u_ws RJx7c733 TJx7c733 6
theorem nmJx7c733 : ∀ a, a < 6 → ∀ b, b < 6 → a ≠ b → (TJx7c733 a).2.1 ≠ (TJx7c733 b).2.1 := by decide +kernel
theorem tyJx7c733_ok : ∀ k, k < 6 → parseFieldDescriptor (TJx7c733 k).2.2.1 = some (tyJx7c733 k) := by decide +kernel
abbrev cJx7c733_init_d00df : ByteArray := prog_29_method_3_code
def yJx7c733_init_d00df : MethodName := ⟨RJx7c733, "<init>", "(I)V"⟩
def RJ1 : String := "java/lang/StringLatin1"
def TJ1 : u_T := fun k => match k with
  | _ => ("", "", "", false)
def tyJ1 : Nat → FieldType := fun k => match k with
  | _ => .int
abbrev wsJ10 : List Cond := u_ws RJ1 TJ1 0
theorem nmJ1 : ∀ a, a < 0 → ∀ b, b < 0 → a ≠ b → (TJ1 a).2.1 ≠ (TJ1 b).2.1 := by decide +kernel
theorem tyJ1_ok : ∀ k, k < 0 → parseFieldDescriptor (TJ1 k).2.2.1 = some (tyJ1 k) := by decide +kernel
abbrev cJ1_canEncode_fc78d : ByteArray := prog_30_method_3_code
def yJ1_canEncode_fc78d : MethodName := ⟨RJ1, "canEncode", "(C)Z"⟩
abbrev cJ1_fillNull_b72d1 : ByteArray := prog_30_method_48_code
def yJ1_fillNull_b72d1 : MethodName := ⟨RJ1, "fillNull", "([BII)V"⟩
abbrev cJ1_inflate_0e8fd : ByteArray := prog_30_method_50_code
def yJ1_inflate_0e8fd : MethodName := ⟨RJ1, "inflate", "([BI[BII)V"⟩
def RJ2 : String := "java/lang/StringUTF16"
def TJ2 : u_T := fun k => match k with
  | _ => ("", "", "", false)
def tyJ2 : Nat → FieldType := fun k => match k with
  | _ => .int
abbrev wsJ20 : List Cond := u_ws RJ2 TJ2 0
theorem nmJ2 : ∀ a, a < 0 → ∀ b, b < 0 → a ≠ b → (TJ2 a).2.1 ≠ (TJ2 b).2.1 := by decide +kernel
theorem tyJ2_ok : ∀ k, k < 0 → parseFieldDescriptor (TJ2 k).2.2.1 = some (tyJ2 k) := by decide +kernel
abbrev cJ2_newBytesFor_77867 : ByteArray := prog_31_method_2_code
def yJ2_newBytesFor_77867 : MethodName := ⟨RJ2, "newBytesFor", "(I)[B"⟩
abbrev cJ2_newBytesLength_0f7a4 : ByteArray := prog_31_method_3_code
def yJ2_newBytesLength_0f7a4 : MethodName := ⟨RJ2, "newBytesLength", "(I)I"⟩
abbrev cJ2_putChar_b72d1 : ByteArray := prog_31_method_4_code
def yJ2_putChar_b72d1 : MethodName := ⟨RJ2, "putChar", "([BII)V"⟩
abbrev cJ2_getChar_3b067 : ByteArray := prog_31_method_5_code
def yJ2_getChar_3b067 : MethodName := ⟨RJ2, "getChar", "([BI)C"⟩
abbrev cJ2_length_9d52b : ByteArray := prog_31_method_6_code
def yJ2_length_9d52b : MethodName := ⟨RJ2, "length", "([B)I"⟩
abbrev cJ2_coderFromArrayLen_85cad : ByteArray := prog_31_method_15_code
def yJ2_coderFromArrayLen_85cad : MethodName := ⟨RJ2, "coderFromArrayLen", "([BI)B"⟩
abbrev cJ2_compress_39247 : ByteArray := prog_31_method_17_code
def yJ2_compress_39247 : MethodName := ⟨RJ2, "compress", "([BII)[B"⟩
abbrev cJ2_compress_5af95 : ByteArray := prog_31_method_22_code
def yJ2_compress_5af95 : MethodName := ⟨RJ2, "compress", "([BI[BII)I"⟩
abbrev cJ2_fillNull_b72d1 : ByteArray := prog_31_method_70_code
def yJ2_fillNull_b72d1 : MethodName := ⟨RJ2, "fillNull", "([BII)V"⟩
abbrev cJ2_putCharSB_b72d1 : ByteArray := prog_31_method_71_code
def yJ2_putCharSB_b72d1 : MethodName := ⟨RJ2, "putCharSB", "([BII)V"⟩
abbrev cJ2_getChars_46870 : ByteArray := prog_31_method_77_code
def yJ2_getChars_46870 : MethodName := ⟨RJ2, "getChars", "(III[B)I"⟩
abbrev cJ2_putCharsAt_cd4e5 : ByteArray := prog_31_method_81_code
def yJ2_putCharsAt_cd4e5 : MethodName := ⟨RJ2, "putCharsAt", "([BICCCC)I"⟩
abbrev cJ2_inflate_0e8fd : ByteArray := prog_31_method_86_code
def yJ2_inflate_0e8fd : MethodName := ⟨RJ2, "inflate", "([BI[BII)V"⟩
abbrev cJ2_getChars_ba4f3 : ByteArray := prog_31_method_89_code
def yJ2_getChars_ba4f3 : MethodName := ⟨RJ2, "getChars", "(II[B)I"⟩
abbrev cJ2_checkIndex_2214a : ByteArray := prog_31_method_91_code
def yJ2_checkIndex_2214a : MethodName := ⟨RJ2, "checkIndex", "(I[B)V"⟩
abbrev cJ2_checkBoundsBeginEnd_d044e : ByteArray := prog_31_method_93_code
def yJ2_checkBoundsBeginEnd_d044e : MethodName := ⟨RJ2, "checkBoundsBeginEnd", "(II[B)V"⟩
abbrev cJ2_checkBoundsOffCount_d044e : ByteArray := prog_31_method_94_code
def yJ2_checkBoundsOffCount_d044e : MethodName := ⟨RJ2, "checkBoundsOffCount", "(II[B)V"⟩
def RJ10 : String := "java/lang/System"
def TJ10 : u_T := fun k => match k with
  | _ => ("", "", "", false)
def tyJ10 : Nat → FieldType := fun k => match k with
  | _ => .int
abbrev wsJ100 : List Cond := u_ws RJ10 TJ10 0
theorem nmJ10 : ∀ a, a < 0 → ∀ b, b < 0 → a ≠ b → (TJ10 a).2.1 ≠ (TJ10 b).2.1 := by decide +kernel
theorem tyJ10_ok : ∀ k, k < 0 → parseFieldDescriptor (TJ10 k).2.2.1 = some (tyJ10 k) := by decide +kernel
def RJxfd54e : String := "java/lang/constant/Constable"
def TJxfd54e : u_T := fun k => match k with
  | _ => ("", "", "", false)
def tyJxfd54e : Nat → FieldType := fun k => match k with
  | _ => .int
abbrev wsJxfd54e0 : List Cond := u_ws RJxfd54e TJxfd54e 0
theorem nmJxfd54e : ∀ a, a < 0 → ∀ b, b < 0 → a ≠ b → (TJxfd54e a).2.1 ≠ (TJxfd54e b).2.1 := by decide +kernel
theorem tyJxfd54e_ok : ∀ k, k < 0 → parseFieldDescriptor (TJxfd54e k).2.2.1 = some (tyJxfd54e k) := by decide +kernel
def RJx3cf43 : String := "java/lang/constant/ConstantDesc"
def TJx3cf43 : u_T := fun k => match k with
  | _ => ("", "", "", false)
def tyJx3cf43 : Nat → FieldType := fun k => match k with
  | _ => .int
abbrev wsJx3cf430 : List Cond := u_ws RJx3cf43 TJx3cf43 0
theorem nmJx3cf43 : ∀ a, a < 0 → ∀ b, b < 0 → a ≠ b → (TJx3cf43 a).2.1 ≠ (TJx3cf43 b).2.1 := by decide +kernel
theorem tyJx3cf43_ok : ∀ k, k < 0 → parseFieldDescriptor (TJx3cf43 k).2.2.1 = some (tyJx3cf43 k) := by decide +kernel
def RJxa1e45 : String := "java/util/AbstractCollection"
def TJxa1e45 : u_T := fun k => match k with
  | _ => ("", "", "", false)
def tyJxa1e45 : Nat → FieldType := fun k => match k with
  | _ => .int
abbrev wsJxa1e450 : List Cond := u_ws RJxa1e45 TJxa1e45 0
theorem nmJxa1e45 : ∀ a, a < 0 → ∀ b, b < 0 → a ≠ b → (TJxa1e45 a).2.1 ≠ (TJxa1e45 b).2.1 := by decide +kernel
theorem tyJxa1e45_ok : ∀ k, k < 0 → parseFieldDescriptor (TJxa1e45 k).2.2.1 = some (tyJxa1e45 k) := by decide +kernel
abbrev cJxa1e45_init_da8c8 : ByteArray := prog_36_method_1_code
def yJxa1e45_init_da8c8 : MethodName := ⟨RJxa1e45, "<init>", "()V"⟩
def RJxc12de : String := "java/util/AbstractList"
def TJxc12de : u_T := fun k => match k with
  | _ => ("", "", "", false)
def tyJxc12de : Nat → FieldType := fun k => match k with
  | _ => .int
abbrev wsJxc12de0 : List Cond := u_ws RJxc12de TJxc12de 0
theorem nmJxc12de : ∀ a, a < 0 → ∀ b, b < 0 → a ≠ b → (TJxc12de a).2.1 ≠ (TJxc12de b).2.1 := by decide +kernel
theorem tyJxc12de_ok : ∀ k, k < 0 → parseFieldDescriptor (TJxc12de k).2.2.1 = some (tyJxc12de k) := by decide +kernel
abbrev cJxc12de_init_da8c8 : ByteArray := prog_37_method_1_code
def yJxc12de_init_da8c8 : MethodName := ⟨RJxc12de, "<init>", "()V"⟩
def RJx4a65c : String := "java/util/ArrayList"
def TJx4a65c : u_T := fun k => match k with
  | 0 => ("java/util/AbstractList", "modCount", "I", false)
  | 1 => ("java/util/ArrayList", "elementData", "[Ljava/lang/Object;", false)
  | _ => ("java/util/ArrayList", "size", "I", false)
def tyJx4a65c : Nat → FieldType := fun k => match k with
  | 0 => .int
  | 1 => .array (.object "java/lang/Object")
  | _ => .int
abbrev wsJx4a65c0 : List Cond := u_ws RJx4a65c TJx4a65c 3
theorem nmJx4a65c : ∀ a, a < 3 → ∀ b, b < 3 → a ≠ b → (TJx4a65c a).2.1 ≠ (TJx4a65c b).2.1 := by decide +kernel
theorem tyJx4a65c_ok : ∀ k, k < 3 → parseFieldDescriptor (TJx4a65c k).2.2.1 = some (tyJx4a65c k) := by decide +kernel
abbrev cJx4a65c_init_da8c8 : ByteArray := prog_38_method_2_code
def yJx4a65c_init_da8c8 : MethodName := ⟨RJx4a65c, "<init>", "()V"⟩
abbrev cJx4a65c_grow_92f84 : ByteArray := prog_38_method_6_code
def yJx4a65c_grow_92f84 : MethodName := ⟨RJx4a65c, "grow", "(I)[Ljava/lang/Object;"⟩
abbrev cJx4a65c_grow_d5877 : ByteArray := prog_38_method_7_code
def yJx4a65c_grow_d5877 : MethodName := ⟨RJx4a65c, "grow", "()[Ljava/lang/Object;"⟩
abbrev cJx4a65c_size_8abf5 : ByteArray := prog_38_method_8_code
def yJx4a65c_size_8abf5 : MethodName := ⟨RJx4a65c, "size", "()I"⟩
abbrev cJx4a65c_isEmpty_aae02 : ByteArray := prog_38_method_9_code
def yJx4a65c_isEmpty_aae02 : MethodName := ⟨RJx4a65c, "isEmpty", "()Z"⟩
abbrev cJx4a65c_elementData_915e3 : ByteArray := prog_38_method_18_code
def yJx4a65c_elementData_915e3 : MethodName := ⟨RJx4a65c, "elementData", "(I)Ljava/lang/Object;"⟩
abbrev cJx4a65c_get_915e3 : ByteArray := prog_38_method_20_code
def yJx4a65c_get_915e3 : MethodName := ⟨RJx4a65c, "get", "(I)Ljava/lang/Object;"⟩
abbrev cJx4a65c_add_72be8 : ByteArray := prog_38_method_24_code
def yJx4a65c_add_72be8 : MethodName := ⟨RJx4a65c, "add", "(Ljava/lang/Object;[Ljava/lang/Object;I)V"⟩
abbrev cJx4a65c_add_9ea2d : ByteArray := prog_38_method_25_code
def yJx4a65c_add_9ea2d : MethodName := ⟨RJx4a65c, "add", "(Ljava/lang/Object;)Z"⟩
def RJ7 : String := "java/util/Arrays"
def TJ7 : u_T := fun k => match k with
  | _ => ("", "", "", false)
def tyJ7 : Nat → FieldType := fun k => match k with
  | _ => .int
abbrev wsJ70 : List Cond := u_ws RJ7 TJ7 0
theorem nmJ7 : ∀ a, a < 0 → ∀ b, b < 0 → a ≠ b → (TJ7 a).2.1 ≠ (TJ7 b).2.1 := by decide +kernel
theorem tyJ7_ok : ∀ k, k < 0 → parseFieldDescriptor (TJ7 k).2.2.1 = some (tyJ7 k) := by decide +kernel
abbrev cJ7_rangeCheck_23922 : ByteArray := prog_39_method_30_code
def yJ7_rangeCheck_23922 : MethodName := ⟨RJ7, "rangeCheck", "(III)V"⟩
abbrev cJ7_fill_eb02e : ByteArray := prog_39_method_110_code
def yJ7_fill_eb02e : MethodName := ⟨RJ7, "fill", "([BIIB)V"⟩
abbrev cJ7_copyOf_1904c : ByteArray := prog_39_method_119_code
def yJ7_copyOf_1904c : MethodName := ⟨RJ7, "copyOf", "([Ljava/lang/Object;I)[Ljava/lang/Object;"⟩
abbrev cJ7_copyOf_6403c : ByteArray := prog_39_method_120_code
def yJ7_copyOf_6403c : MethodName := ⟨RJ7, "copyOf", "([Ljava/lang/Object;ILjava/lang/Class;)[Ljava/lang/Object;"⟩
abbrev cJ7_copyOf_9075b : ByteArray := prog_39_method_121_code
def yJ7_copyOf_9075b : MethodName := ⟨RJ7, "copyOf", "([BI)[B"⟩
abbrev cJ7_checkLength_df160 : ByteArray := prog_39_method_131_code
def yJ7_checkLength_df160 : MethodName := ⟨RJ7, "checkLength", "(II)V"⟩
abbrev cJ7_copyOfRange_39247 : ByteArray := prog_39_method_132_code
def yJ7_copyOfRange_39247 : MethodName := ⟨RJ7, "copyOfRange", "([BII)[B"⟩
abbrev cJ7_copyOfRangeByte_39247 : ByteArray := prog_39_method_133_code
def yJ7_copyOfRangeByte_39247 : MethodName := ⟨RJ7, "copyOfRangeByte", "([BII)[B"⟩
def RJx5ef63 : String := "java/util/Collection"
def TJx5ef63 : u_T := fun k => match k with
  | _ => ("", "", "", false)
def tyJx5ef63 : Nat → FieldType := fun k => match k with
  | _ => .int
abbrev wsJx5ef630 : List Cond := u_ws RJx5ef63 TJx5ef63 0
theorem nmJx5ef63 : ∀ a, a < 0 → ∀ b, b < 0 → a ≠ b → (TJx5ef63 a).2.1 ≠ (TJx5ef63 b).2.1 := by decide +kernel
theorem tyJx5ef63_ok : ∀ k, k < 0 → parseFieldDescriptor (TJx5ef63 k).2.2.1 = some (tyJx5ef63 k) := by decide +kernel
def RJxbd725 : String := "java/util/List"
def TJxbd725 : u_T := fun k => match k with
  | _ => ("", "", "", false)
def tyJxbd725 : Nat → FieldType := fun k => match k with
  | _ => .int
abbrev wsJxbd7250 : List Cond := u_ws RJxbd725 TJxbd725 0
theorem nmJxbd725 : ∀ a, a < 0 → ∀ b, b < 0 → a ≠ b → (TJxbd725 a).2.1 ≠ (TJxbd725 b).2.1 := by decide +kernel
theorem tyJxbd725_ok : ∀ k, k < 0 → parseFieldDescriptor (TJxbd725 k).2.2.1 = some (tyJxbd725 k) := by decide +kernel
def RJ15 : String := "java/util/Objects"
def TJ15 : u_T := fun k => match k with
  | _ => ("", "", "", false)
def tyJ15 : Nat → FieldType := fun k => match k with
  | _ => .int
abbrev wsJ150 : List Cond := u_ws RJ15 TJ15 0
theorem nmJ15 : ∀ a, a < 0 → ∀ b, b < 0 → a ≠ b → (TJ15 a).2.1 ≠ (TJ15 b).2.1 := by decide +kernel
theorem tyJ15_ok : ∀ k, k < 0 → parseFieldDescriptor (TJ15 k).2.2.1 = some (tyJ15 k) := by decide +kernel
abbrev cJ15_checkIndex_7cf53 : ByteArray := prog_42_method_17_code
def yJ15_checkIndex_7cf53 : MethodName := ⟨RJ15, "checkIndex", "(II)I"⟩
def RJxf0a74 : String := "java/util/RandomAccess"
def TJxf0a74 : u_T := fun k => match k with
  | _ => ("", "", "", false)
def tyJxf0a74 : Nat → FieldType := fun k => match k with
  | _ => .int
abbrev wsJxf0a740 : List Cond := u_ws RJxf0a74 TJxf0a74 0
theorem nmJxf0a74 : ∀ a, a < 0 → ∀ b, b < 0 → a ≠ b → (TJxf0a74 a).2.1 ≠ (TJxf0a74 b).2.1 := by decide +kernel
theorem tyJxf0a74_ok : ∀ k, k < 0 → parseFieldDescriptor (TJxf0a74 k).2.2.1 = some (tyJxf0a74 k) := by decide +kernel
def RJxa66e6 : String := "java/util/SequencedCollection"
def TJxa66e6 : u_T := fun k => match k with
  | _ => ("", "", "", false)
def tyJxa66e6 : Nat → FieldType := fun k => match k with
  | _ => .int
abbrev wsJxa66e60 : List Cond := u_ws RJxa66e6 TJxa66e6 0
theorem nmJxa66e6 : ∀ a, a < 0 → ∀ b, b < 0 → a ≠ b → (TJxa66e6 a).2.1 ≠ (TJxa66e6 b).2.1 := by decide +kernel
theorem tyJxa66e6_ok : ∀ k, k < 0 → parseFieldDescriptor (TJxa66e6 k).2.2.1 = some (tyJxa66e6 k) := by decide +kernel
def RJ8 : String := "jdk/internal/util/ArraysSupport"
def TJ8 : u_T := fun k => match k with
  | _ => ("", "", "", false)
def tyJ8 : Nat → FieldType := fun k => match k with
  | _ => .int
abbrev wsJ80 : List Cond := u_ws RJ8 TJ8 0
theorem nmJ8 : ∀ a, a < 0 → ∀ b, b < 0 → a ≠ b → (TJ8 a).2.1 ≠ (TJ8 b).2.1 := by decide +kernel
theorem tyJ8_ok : ∀ k, k < 0 → parseFieldDescriptor (TJ8 k).2.2.1 = some (tyJ8 k) := by decide +kernel
abbrev cJ8_newLength_cabcc : ByteArray := prog_45_method_27_code
def yJ8_newLength_cabcc : MethodName := ⟨RJ8, "newLength", "(III)I"⟩
abbrev cJ8_hugeLength_7cf53 : ByteArray := prog_45_method_28_code
def yJ8_hugeLength_7cf53 : MethodName := ⟨RJ8, "hugeLength", "(II)I"⟩
def RJ3 : String := "jdk/internal/util/Preconditions"
def TJ3 : u_T := fun k => match k with
  | _ => ("", "", "", false)
def tyJ3 : Nat → FieldType := fun k => match k with
  | _ => .int
abbrev wsJ30 : List Cond := u_ws RJ3 TJ3 0
theorem nmJ3 : ∀ a, a < 0 → ∀ b, b < 0 → a ≠ b → (TJ3 a).2.1 ≠ (TJ3 b).2.1 := by decide +kernel
theorem tyJ3_ok : ∀ k, k < 0 → parseFieldDescriptor (TJ3 k).2.2.1 = some (tyJ3 k) := by decide +kernel
abbrev cJ3_checkIndex_8e157 : ByteArray := prog_46_method_11_code
def yJ3_checkIndex_8e157 : MethodName := ⟨RJ3, "checkIndex", "(IILjava/util/function/BiFunction;)I"⟩
abbrev cJ3_checkFromToIndex_8c36e : ByteArray := prog_46_method_12_code
def yJ3_checkFromToIndex_8c36e : MethodName := ⟨RJ3, "checkFromToIndex", "(IIILjava/util/function/BiFunction;)I"⟩
abbrev cJ3_checkFromIndexSize_8c36e : ByteArray := prog_46_method_13_code
def yJ3_checkFromIndexSize_8c36e : MethodName := ⟨RJ3, "checkFromIndexSize", "(IIILjava/util/function/BiFunction;)I"⟩
def RL : String := "RentStreamLaw"
abbrev cL_flat : ByteArray := method_3_code
def yL_flat : MethodName := ⟨RL, "flat", "(LRentStream;I[J)I"⟩
abbrev cL_lease : ByteArray := method_4_code
def yL_lease : MethodName := ⟨RL, "lease", "(LRentStream;II[J)I"⟩
abbrev cL_end : ByteArray := method_5_code
def yL_end : MethodName := ⟨RL, "end", "(LRentStream;I[J)I"⟩
abbrev cL_index : ByteArray := method_6_code
def yL_index : MethodName := ⟨RL, "index", "(LRentStream;I[J)I"⟩
abbrev cL_read : ByteArray := method_7_code
def yL_read : MethodName := ⟨RL, "read", "(LRentStream;II[J)I"⟩
abbrev cL_heat : ByteArray := method_8_code
def yL_heat : MethodName := ⟨RL, "heat", "(LRentStream;I[J)I"⟩
abbrev cL_report : ByteArray := method_9_code
def yL_report : MethodName := ⟨RL, "report", "(LRentStream;II[J)I"⟩
abbrev cL_mend : ByteArray := method_10_code
def yL_mend : MethodName := ⟨RL, "mend", "(LRentStream;I[J)I"⟩
abbrev cL_income : ByteArray := method_11_code
def yL_income : MethodName := ⟨RL, "income", "(LRentStream;III[J)I"⟩
abbrev cL_pay : ByteArray := method_12_code
def yL_pay : MethodName := ⟨RL, "pay", "(LRentStream;II[J)I"⟩
abbrev cL_plan : ByteArray := method_13_code
def yL_plan : MethodName := ⟨RL, "plan", "(LRentStream;II[J)I"⟩
abbrev cL_pass : ByteArray := method_14_code
def yL_pass : MethodName := ⟨RL, "pass", "(LRentStream;I[J)I"⟩
abbrev cL_owes : ByteArray := method_15_code
def yL_owes : MethodName := ⟨RL, "owes", "(LRentStream;I[J)I"⟩
abbrev cL_owesAnew : ByteArray := method_16_code
def yL_owesAnew : MethodName := ⟨RL, "owesAnew", "(LRentStream;I[J)I"⟩
abbrev cL_desk : ByteArray := method_17_code
def yL_desk : MethodName := ⟨RL, "desk", "(LRentStream;I[J)I"⟩
abbrev cL_bill : ByteArray := method_18_code
def yL_bill : MethodName := ⟨RL, "bill", "(LRentStream;III[J)I"⟩
abbrev cL_line : ByteArray := method_19_code
def yL_line : MethodName := ⟨RL, "line", "(LRentStream;III[J)I"⟩
abbrev cL_use : ByteArray := method_20_code
def yL_use : MethodName := ⟨RL, "use", "(LRentStream;II[J)I"⟩
abbrev cL_points : ByteArray := method_21_code
def yL_points : MethodName := ⟨RL, "points", "(LRentStream;I[J)I"⟩
abbrev cL_planOf : ByteArray := method_22_code
def yL_planOf : MethodName := ⟨RL, "planOf", "(LRentStream;I[J)I"⟩
abbrev cL_law : ByteArray := code
def yL_law : MethodName := ⟨RL, "law", "([I)Z"⟩
end
section
/-! ===== THE WALKER'S GROUND: the picture of the heap, one predicate for 'the machine stands here', a row an instruction ===== -/
/-- the classes whose objects the picture holds -/
abbrev xCl : List vw_C := [(RX0, TX0, 4), (RX1, TX1, 6), (RX2, TX2, 3), (RX3, TX3, 11), (RX4, TX4, 1), (RX5, TX5, 4), (RX6, TX6, 5), (RX7, TX7, 10), (RX8, TX8, 40), (RJ4, TJ4, 4), (RJx4a65c, TJx4a65c, 3)]
/-- a cell: an array (its kind, its length and contents) or an object (the number of its class in xCl, its fields); kinds 0 int, 1 long, 2 boolean, 3 byte, 4 char, 5 Bill, 6 Object; 7: bytes nobody writes; 8: the empty Object row nobody writes; class 11: a String nobody writes -/
abbrev xE : Type := (Nat × vp_A) ⊕ (Nat × List Value)
abbrev xT : Type := Nat → Option xE
/-- class numbers, array classes, where the walk's own cells begin, the addresses of the things that stood before -/
abbrev xG : Type := va_G × (Nat → ClassId) × Nat × (Nat → Nat)
def xA (G : xG) : Nat → Prop := fun q => G.2.2.1 ≤ q
abbrev xTys (G : xG) : List (ClassId × FieldType) := [(G.2.1 0, .int), (G.2.1 1, .long), (G.2.1 2, .boolean), (G.2.1 3, .byte), (G.2.1 4, .char), (G.2.1 5, .object "RentStream$Bill"), (G.2.1 6, .object "java/lang/Object")]
def xup (τ : xT) (a : Nat) (e : xE) : xT := fun b => if b = a then some e else τ b
theorem xup_s (τ : xT) (a : Nat) (e : xE) : xup τ a e a = some e := if_pos rfl
theorem xup_n (τ : xT) {a b : Nat} (e : xE) (h : b ≠ a) : xup τ a e b = τ b := if_neg h
/-- what the picture's cell says of the heap -/
def xat (G : xG) (s : State) (a : Nat) (e : xE) (H : Heap) : Prop := match e with
  | .inl (k, x) => (k < 7 → H[a]? = some (vp_cell (G.2.1 k) x) ∧ xA G a) ∧ (k = 7 → ∃ f, x.2 = .inl f ∧ va_T .byte a x.1 (fun j => .int (f j)) (xA G) s H) ∧ (7 < k → x.1 = 0 ∧ va_T (.object "java/lang/Object") a 0 (fun _ => .null) (xA G) s H)
  | .inr (ci, fs) => (ci ≠ 11 → va_at G.1 xCl (a, .inr (ci, fs)) H ∧ xA G a) ∧ (ci = 11 → va_O "java/lang/String" a (xA G) s H ∧ ∃ (v : Nat) (c : Int32), fs = [.ref v, .int c] ∧ va_OF "java/lang/String" "value" "[B" (.ref v) a (xA G) s H ∧ va_OF "java/lang/String" "coder" "B" (.int c) a (xA G) s H)
def xW (G : xG) (s : State) (τ : xT) (H : Heap) : Prop := ∀ a e, τ a = some e → xat G s a e H
theorem xat.lt {G : xG} {s : State} {a : Nat} {e : xE} {H : Heap} (h : xat G s a e H) : a < H.size := by
  rcases e with ⟨k, x⟩ | ⟨ci, fs⟩
  · obtain ⟨h1, h2, h3⟩ := h
    rcases Nat.lt_trichotomy k 7 with q | q | q
    · exact (Array.getElem?_eq_some_iff.mp (h1 q).1).1
    · obtain ⟨f, -, cell, hc, -⟩ := h2 q
      exact (Array.getElem?_eq_some_iff.mp hc).1
    · obtain ⟨-, cell, hc, -⟩ := h3 q
      exact (Array.getElem?_eq_some_iff.mp hc).1
  · obtain ⟨h1, h2⟩ := h
    by_cases q : ci = 11
    · obtain ⟨⟨cell, hc, -⟩, -⟩ := h2 q
      exact (Array.getElem?_eq_some_iff.mp hc).1
    · exact (h1 q).1.lt
theorem va_T.keptAt {ty : FieldType} {t N : Nat} {f : Nat → Value} {A : Nat → Prop} {U : State} {H H1 : Heap} (h : va_T ty t N f A U H) (hq : H1[t]? = H[t]?) : va_T ty t N f A U H1 := by
  obtain ⟨cell, h1, h2⟩ := h
  exact ⟨cell, by rw [hq]; exact h1, h2⟩
theorem va_O.keptAt {E : String} {t : Nat} {A : Nat → Prop} {U : State} {H H1 : Heap} (h : va_O E t A U H) (hq : H1[t]? = H[t]?) : va_O E t A U H1 := by
  obtain ⟨cell, h1, h2⟩ := h
  exact ⟨cell, by rw [hq]; exact h1, h2⟩
theorem va_OF.keptAt {o n d : String} {v : Value} {t : Nat} {A : Nat → Prop} {U : State} {H H1 : Heap} (h : va_OF o n d v t A U H) (hq : H1[t]? = H[t]?) : va_OF o n d v t A U H1 := by
  obtain ⟨cf, k, i, f, cell, h1, h2, h3, h4⟩ := h
  exact ⟨cf, k, i, f, cell, h1, h2, by rw [hq]; exact h3, h4⟩
theorem xat.kept {G : xG} {s : State} {a : Nat} {e : xE} {H H1 : Heap} (h : xat G s a e H) (hq : H1[a]? = H[a]?) : xat G s a e H1 := by
  rcases e with ⟨k, x⟩ | ⟨ci, fs⟩
  · obtain ⟨h1, h2, h3⟩ := h
    refine ⟨fun q => ⟨hq.trans (h1 q).1, (h1 q).2⟩, fun q => ?_, fun q => ⟨(h3 q).1, (h3 q).2.keptAt hq⟩⟩
    obtain ⟨f, e1, e2⟩ := h2 q
    exact ⟨f, e1, e2.keptAt hq⟩
  · obtain ⟨h1, h2⟩ := h
    refine ⟨fun q => ⟨(h1 q).1.kept hq, (h1 q).2⟩, fun q => ?_⟩
    obtain ⟨e1, v, c, e2, e3, e4⟩ := h2 q
    exact ⟨e1.keptAt hq, v, c, e2, e3.keptAt hq, e4.keptAt hq⟩
theorem xat.moved {G : xG} {s U : State} {a : Nat} {e : xE} {H : Heap} (hvm : s.vm.Alike U.vm) (h : xat G s a e H) : xat G U a e H := by
  rcases e with ⟨k, x⟩ | ⟨ci, fs⟩
  · obtain ⟨h1, h2, h3⟩ := h
    refine ⟨h1, fun q => ?_, fun q => ⟨(h3 q).1, (h3 q).2.moved hvm⟩⟩
    obtain ⟨f, e1, e2⟩ := h2 q
    exact ⟨f, e1, e2.moved hvm⟩
  · obtain ⟨h1, h2⟩ := h
    refine ⟨h1, fun q => ?_⟩
    obtain ⟨e1, v, c, e2, e3, e4⟩ := h2 q
    exact ⟨e1.moved hvm, v, c, e2, e3.moved hvm, e4.moved hvm⟩
theorem xW.moved {G : xG} {s U : State} {τ : xT} {H : Heap} (hvm : s.vm.Alike U.vm) (h : xW G s τ H) : xW G U τ H := fun a e ha => (h a e ha).moved hvm
theorem xW.kept {G : xG} {s : State} {τ : xT} {H H1 : Heap} (h : xW G s τ H) (hq : ∀ q : Nat, q < H.size → H1[q]? = H[q]?) : xW G s τ H1 := fun a e ha => (h a e ha).kept (hq a (h a e ha).lt)
theorem xW.set {G : xG} {s : State} {τ : xT} {H H1 : Heap} {a : Nat} {e : xE} (h : xW G s τ H) (he : xat G s a e H1) (oq : ∀ q : Nat, q ≠ a → H1[q]? = H[q]?) : xW G s (xup τ a e) H1 := by
  intro b e' hb
  by_cases hba : b = a
  · subst hba
    rw [xup_s] at hb
    cases hb
    exact he
  · rw [xup_n _ _ hba] at hb
    exact (h b e' hb).kept (oq b hba)
theorem xW.push {G : xG} {s : State} {τ : xT} {H H1 : Heap} {e : xE} (h : xW G s τ H) (he : xat G s H.size e H1) (oq : ∀ q : Nat, q < H.size → H1[q]? = H[q]?) : xW G s (xup τ H.size e) H1 := by
  intro b e' hb
  by_cases hba : b = H.size
  · subst hba
    rw [xup_s] at hb
    cases hb
    exact he
  · rw [xup_n _ _ hba] at hb
    exact (h b e' hb).kept (oq b (h b e' hb).lt)
theorem xW.fresh {G : xG} {s : State} {τ : xT} {H : Heap} (h : xW G s τ H) : τ H.size = none := by
  cases hq : τ H.size with
  | none => rfl
  | some e => exact absurd (h _ _ hq).lt (Nat.lt_irrefl _)
/-- private methods of AbstractStringBuilder, called on a StringBuilder -/
def xSB : List MethodName := [yJ5_ensureCapacityInternal_d00df, yJ5_newCapacity_0f7a4, yJ5_putStringAt_47b60, yJ5_inflateIfNeededFor_a7421]
def xtb : List Cond := (xSB.map fun y => Cond.selects "java/lang/StringBuilder" y y) ++ lw_tbl
/-- the words that every method stands on -/
def xBW : List Cond := xtb.filter goodWord
theorem xbw (i : Nat) {w : Cond} (h1 : xtb[i]? = some w) (h2 : goodWord w = true) : w ∈ xBW := List.mem_filter.mpr ⟨List.mem_of_getElem? h1, h2⟩
theorem xBW_good : ∀ w ∈ xBW, (w.onTables && w.keeps) = true ∨ ∃ ty, w = .arrayClass ty := fun _ h => good_of_word (List.mem_filter.mp h).2
/-- methods of nest mates; what may be cast; what declares a method; texts; statics -/
def xNest : List (String × Nat × MethodName × String) := [(RX7, 43, yX0_init, "RentStream"), (RX3, 26, yX5_init, "RentStream"), (RX3, 33, yX2_init, "RentStream"), (RX3, 88, yX7_benefitFor, "RentStream")]
def xCast : List (String × String) := [("java/lang/IllegalArgumentException", "java/lang/IllegalArgumentException"), ("java/lang/IllegalStateException", "java/lang/IllegalStateException"), ("java/lang/IndexOutOfBoundsException", "java/lang/IndexOutOfBoundsException"), ("RentStream$Flat", "java/lang/Object"), ("RentStream$Lease", "java/lang/Object"), ("RentStream$Repair", "java/lang/Object"), ("[Ljava/lang/Object;", "java/lang/Object"), ("[B", "java/lang/Object")]
def xDecl : List MethodName := [⟨"java/lang/RuntimeException", "<init>", "()V"⟩, ⟨"java/lang/RuntimeException", "<init>", "(Ljava/lang/String;)V"⟩, ⟨"java/lang/Exception", "<init>", "()V"⟩, ⟨"java/lang/Exception", "<init>", "(Ljava/lang/String;)V"⟩, ⟨"java/lang/Throwable", "<init>", "()V"⟩, ⟨"java/lang/Throwable", "<init>", "(Ljava/lang/String;)V"⟩, ⟨"java/lang/Object", "getClass", "()Ljava/lang/Class;"⟩]
def xStr : List (String × Nat × String) := [("RentStream", 61, "rooms out of range"), ("RentStream", 72, "no more flats"), ("RentStream", 259, "no such flat"), ("RentStream", 87, "rent out of range"), ("RentStream", 93, "no more leases, or the flat is let"), ("RentStream", 261, "no such lease"), ("RentStream", 110, "ended before"), ("RentStream", 112, "points out of range"), ("RentStream", 122, "shown out of range"), ("RentStream", 128, "cents out of range"), ("RentStream", 131, "too much heat"), ("RentStream", 137, "grade out of range"), ("RentStream", 139, "no more repairs"), ("RentStream", 146, "no such repair"), ("RentStream", 157, "mended before"), ("RentStream", 263, "no such month"), ("RentStream", 185, "parts out of range"), ("RentStream", 196, "a plan runs, or nothing is owed"), ("RentStream", 202, "days out of range"), ("RentStream", 204, "beyond the last day"), ("RentStream", 226, "what out of range"), ("RentStream", 237, "no such place"), ("RentStream", 382, " M")]
def xSta (G : xG) : List (String × String × String × Value) := [("java/lang/String", "COMPACT_STRINGS", "Z", .int 1), ("java/util/ArrayList", "DEFAULTCAPACITY_EMPTY_ELEMENTDATA", "[Ljava/lang/Object;", .ref (G.2.2.2 0)), ("java/lang/Integer", "DigitOnes", "[B", .ref (G.2.2.2 1)), ("java/lang/Integer", "DigitTens", "[B", .ref (G.2.2.2 2))]
def xStq : List (String × String × String) := [(Bundle.tN, "UNASSIGNED_STACK", Bundle.steD), (Bundle.tN, "SUPPRESSED_SENTINEL", Bundle.listD), ("jdk/internal/util/Preconditions", "SIOOBE_FORMATTER", "Ljava/util/function/BiFunction;")]
/-- what stands around every method: it is there at the start, and nobody changes it -/
def xAmb (G : xG) (U : State) : Prop := va_K G.1 xCl (xTys G) U ∧ (∀ q ∈ xNest, va_Nw (.methodLinkNest q.1 q.2.1 q.2.2.1 q.2.2.2) U) ∧ (∀ q ∈ xCast, va_Nw (.castable q.1 q.2) U) ∧ (∀ q ∈ xDecl, va_Nw (.declares q) U) ∧ (∀ q ∈ xStr, ∃ a, vk_R q.1 q.2.1 q.2.2 a U) ∧ (∀ q ∈ xSta G, va_Z q.1 q.2.1 q.2.2.1 q.2.2.2 (xA G) U U.heap) ∧ (∀ q ∈ xStq, vx_Zq q.1 q.2.1 q.2.2 (xA G) U U.heap) ∧ va_AO "RentStream$Bill" U ∧ va_AO "java/lang/Object" U ∧ vk_R "RentStream" 382 " M" (G.2.2.2 3) U ∧ va_Mi "[Ljava/lang/Object;" (G.2.2.2 5) U ∧ G.2.2.1 ≤ U.heap.size
end
section
/-! ===== one predicate for 'the machine stands here', and the plain instructions ===== -/
abbrev xΓ : Type := Program × Launch × Env × Room × State × MethodId × Array Value × List Frame × Method × Code × (State → Prop) × xG
abbrev gp (Γ : xΓ) : Program := Γ.1
abbrev gl (Γ : xΓ) : Launch := Γ.2.1
abbrev ge (Γ : xΓ) : Env := Γ.2.2.1
abbrev gR (Γ : xΓ) : Room := Γ.2.2.2.1
abbrev gs (Γ : xΓ) : State := Γ.2.2.2.2.1
abbrev gm (Γ : xΓ) : MethodId := Γ.2.2.2.2.2.1
abbrev ga (Γ : xΓ) : Array Value := Γ.2.2.2.2.2.2.1
abbrev gb (Γ : xΓ) : List Frame := Γ.2.2.2.2.2.2.2.1
abbrev gM (Γ : xΓ) : Method := Γ.2.2.2.2.2.2.2.2.1
abbrev gc (Γ : xΓ) : Code := Γ.2.2.2.2.2.2.2.2.2.1
abbrev gQ (Γ : xΓ) : State → Prop := Γ.2.2.2.2.2.2.2.2.2.2.1
abbrev gG (Γ : xΓ) : xG := Γ.2.2.2.2.2.2.2.2.2.2.2
/-- a method's own numbers: its class, its code, its locals, how many frames and words of locals it may need -/
abbrev xκ : Type := String × ByteArray × Nat × Nat × Nat
def xOK (Γ : xΓ) (κ : xκ) : Prop := (gp Γ).tables.exec = Jvm.exec ∧ (gc Γ).code = κ.2.1 ∧ (gc Γ).maxLocals = κ.2.2.1 ∧ (gs Γ).vm.findClass κ.1 = some (gm Γ).cls ∧ (∀ w ∈ xBW, w.before (ga Γ) (gs Γ) = true) ∧ xAmb (gG Γ) (gs Γ) ∧ κ.2.2.2.1 ≤ (gR Γ).frames ∧ κ.2.2.2.2 ≤ (gR Γ).locals ∧ (gM Γ).locks = false ∧ (gl Γ).stackTraces = false
def xX (Γ : xΓ) (κ : xκ) (pc : Nat) (L : List (Nat × Value)) (st : List Value) (τ : xT) (rc rs : Nat) : Prop := xOK Γ κ → ∀ (H : Heap) (locs : List Loc) (ls : Array Slot) (cells slots : Nat), xW (gG Γ) (gs Γ) τ H → va_S (xA (gG Γ)) (gs Γ).heap H locs → cells + rc ≤ (gR Γ).cells → slots + rs ≤ (gR Γ).slots → lv_has ls κ.2.2.1 L →
  W (gp Γ) (gl Γ) (ge Γ) (gR Γ) (gs Γ) (gm Γ) (ga Γ) (gb Γ) (gM Γ) (gc Γ) H locs cells slots (gQ Γ) (F0 (gm Γ) pc ls st)
/-- an exception of class E has been thrown over this frame -/
def xXt (Γ : xΓ) (κ : xκ) (pc : Nat) (L : List (Nat × Value)) (st : List Value) (E : String) (τ : xT) (rc rs : Nat) : Prop := xOK Γ κ → ∀ (H : Heap) (locs : List Loc) (ls : Array Slot) (cells slots : Nat) (q : Nat) (ce : Cell), xW (gG Γ) (gs Γ) τ H → va_S (xA (gG Γ)) (gs Γ).heap H locs → cells + rc ≤ (gR Γ).cells → slots + rs ≤ (gR Γ).slots → lv_has ls κ.2.2.1 L → H[q]? = some ce → ce.vm = .none → (gs Γ).vm.findClass E = some ce.cls →
  vx_W (gp Γ) (gl Γ) (ge Γ) (gR Γ) (gs Γ) (gm Γ) (ga Γ) (gb Γ) (gM Γ) (gc Γ) H locs cells slots (gQ Γ) (F0 (gm Γ) pc ls st) q
def xrem (x y : Int32) : Int32 := x - x / y * y
def xlrem (x y : Int64) : Int64 := x - x / y * y
def xput (L : List (Nat × Value)) (i : Nat) (v : Value) : List (Nat × Value) := (i, v) :: L.filter (fun q => !(q.1 == i) && !(q.1 + 1 == i && q.2.category == 2))
def xput2 (L : List (Nat × Value)) (i : Nat) (v : Value) : List (Nat × Value) := (i, v) :: L.filter (fun q => !(q.1 == i) && (!(q.1 == i + 1) && !(q.1 + 1 == i && q.2.category == 2)))
section XROWS
variable {Γ : xΓ} {κ : xκ} {pc : Nat} {L L' : List (Nat × Value)} {rest : List Value} {τ : xT} {rc rs : Nat}
/-- fewer locals, by their places -/
theorem x_sub (ks : List Nat) (hl : lv_pick L ks = L') (k : xX Γ κ pc L' rest τ rc rs) : xX Γ κ pc L rest τ rc rs := fun ok H locs ls cs ss hW hS h1 h2 h => k ok H locs ls cs ss hW hS h1 h2 (lv_sub h ks hl)
theorem x_less {rc' rs' : Nat} (h1 : rc' ≤ rc) (h2 : rs' ≤ rs) (k : xX Γ κ pc L rest τ rc' rs') : xX Γ κ pc L rest τ rc rs := fun ok H locs ls cs ss hW hS q1 q2 h => k ok H locs ls cs ss hW hS (by omega) (by omega) h
theorem x_eq {pc' : Nat} {st' : List Value} (h : pc = pc') (h2 : rest = st') (k : xX Γ κ pc' L st' τ rc rs) : xX Γ κ pc L rest τ rc rs := by subst h; subst h2; exact k
theorem x_iconst {n : Int} {v : Int32} (d : decode κ.2.1 pc = .ok (.iconst n, 1)) (hv : Int32.ofInt n = v) (k : xX Γ κ (pc + 1) L (.int v :: rest) τ rc rs) : xX Γ κ pc L (rest) τ rc rs := fun ok H locs ls cs ss hW hS h1 h2 h => lv_iconst ok.1 ok.2.1 d hv (k ok H locs ls cs ss hW hS h1 h2 h)
theorem x_bipush {n : Int} {v : Int32} (d : decode κ.2.1 pc = .ok (.bipush n, 2)) (hv : (Int8.ofInt n).toInt32 = v) (k : xX Γ κ (pc + 2) L (.int v :: rest) τ rc rs) : xX Γ κ pc L (rest) τ rc rs := fun ok H locs ls cs ss hW hS h1 h2 h => lv_bipush ok.1 ok.2.1 d hv (k ok H locs ls cs ss hW hS h1 h2 h)
theorem x_sipush {n : Int} {v : Int32} (d : decode κ.2.1 pc = .ok (.sipush n, 3)) (hv : (Int16.ofInt n).toInt32 = v) (k : xX Γ κ (pc + 3) L (.int v :: rest) τ rc rs) : xX Γ κ pc L (rest) τ rc rs := fun ok H locs ls cs ss hW hS h1 h2 h => lv_sipush ok.1 ok.2.1 d hv (k ok H locs ls cs ss hW hS h1 h2 h)
theorem x_lconst {n : Fin 2} {v : Int64} (d : decode κ.2.1 pc = .ok (.lconst n, 1)) (hv : Int64.ofNat (n : Nat) = v) (k : xX Γ κ (pc + 1) L (.long v :: rest) τ rc rs) : xX Γ κ pc L (rest) τ rc rs := fun ok H locs ls cs ss hW hS h1 h2 h => lv_lconst ok.1 ok.2.1 d hv (k ok H locs ls cs ss hW hS h1 h2 h)
theorem x_ldc {i : Nat} {v : Int32} (d : decode κ.2.1 pc = .ok (.ldc i, 2)) (w : Cond.constant κ.1 i v ∈ xBW) (k : xX Γ κ (pc + 2) L (.int v :: rest) τ rc rs) : xX Γ κ pc L rest τ rc rs := fun ok H locs ls cs ss hW hS h1 h2 h => lv_ldc ok.1 ok.2.1 ok.2.2.2.1 (ok.2.2.2.2.1 _ w) d (k ok H locs ls cs ss hW hS h1 h2 h)
theorem x_ldcw {i : Nat} {v : Int32} (d : decode κ.2.1 pc = .ok (.ldc_w i, 3)) (w : Cond.constant κ.1 i v ∈ xBW) (k : xX Γ κ (pc + 3) L (.int v :: rest) τ rc rs) : xX Γ κ pc L rest τ rc rs := fun ok H locs ls cs ss hW hS h1 h2 h => lv_ldcw ok.1 ok.2.1 ok.2.2.2.1 (ok.2.2.2.2.1 _ w) d (k ok H locs ls cs ss hW hS h1 h2 h)
theorem x_ldc2 {i : Nat} {v : Int64} (d : decode κ.2.1 pc = .ok (.ldc2_w i, 3)) (w : Cond.constantLong κ.1 i v ∈ xBW) (k : xX Γ κ (pc + 3) L (.long v :: rest) τ rc rs) : xX Γ κ pc L rest τ rc rs := fun ok H locs ls cs ss hW hS h1 h2 h => lv_ldc2 ok.1 ok.2.1 ok.2.2.2.1 (ok.2.2.2.2.1 _ w) d (k ok H locs ls cs ss hW hS h1 h2 h)
theorem x_iload_n {k0 : Fin 4} {i : Nat} {x : Int32} (j : Nat) (d : decode κ.2.1 pc = .ok (.iload_n k0, 1)) (hi : (k0 : Nat) = i) (hj : L[j]? = some (i, .int x)) (k : xX Γ κ (pc + 1) L (.int x :: rest) τ rc rs) : xX Γ κ pc L (rest) τ rc rs := fun ok H locs ls cs ss hW hS h1 h2 h => lv_iload_n ok.1 ok.2.1 d hi (lv_at h j hj) (k ok H locs ls cs ss hW hS h1 h2 h)
theorem x_iload {i : Nat} {x : Int32} (j : Nat) (d : decode κ.2.1 pc = .ok (.iload i, 2)) (hj : L[j]? = some (i, .int x)) (k : xX Γ κ (pc + 2) L (.int x :: rest) τ rc rs) : xX Γ κ pc L (rest) τ rc rs := fun ok H locs ls cs ss hW hS h1 h2 h => lv_iload ok.1 ok.2.1 d (lv_at h j hj) (k ok H locs ls cs ss hW hS h1 h2 h)
theorem x_istore_n {k0 : Fin 4} {i : Nat} {x : Int32} (d : decode κ.2.1 pc = .ok (.istore_n k0, 1)) (hi : (k0 : Nat) = i) (hn : i < κ.2.2.1) (hl : xput L i (.int x) = L') (k : xX Γ κ (pc + 1) L' rest τ rc rs) : xX Γ κ pc L (.int x :: rest) τ rc rs := fun ok H locs ls cs ss hW hS h1 h2 h => lv_istore_n ok.1 ok.2.1 d hi h hn hl (fun ls h => k ok H locs ls cs ss hW hS h1 h2 h)
theorem x_istore {i : Nat} {x : Int32} (d : decode κ.2.1 pc = .ok (.istore i, 2)) (hn : i < κ.2.2.1) (hl : xput L i (.int x) = L') (k : xX Γ κ (pc + 2) L' rest τ rc rs) : xX Γ κ pc L (.int x :: rest) τ rc rs := fun ok H locs ls cs ss hW hS h1 h2 h => lv_istore ok.1 ok.2.1 d h hn hl (fun ls h => k ok H locs ls cs ss hW hS h1 h2 h)
theorem x_lload_n {k0 : Fin 4} {i : Nat} {x : Int64} (j : Nat) (d : decode κ.2.1 pc = .ok (.lload_n k0, 1)) (hi : (k0 : Nat) = i) (hj : L[j]? = some (i, .long x)) (k : xX Γ κ (pc + 1) L (.long x :: rest) τ rc rs) : xX Γ κ pc L (rest) τ rc rs := fun ok H locs ls cs ss hW hS h1 h2 h => lv_lload_n ok.1 ok.2.1 d hi (lv_at h j hj) (k ok H locs ls cs ss hW hS h1 h2 h)
theorem x_lload {i : Nat} {x : Int64} (j : Nat) (d : decode κ.2.1 pc = .ok (.lload i, 2)) (hj : L[j]? = some (i, .long x)) (k : xX Γ κ (pc + 2) L (.long x :: rest) τ rc rs) : xX Γ κ pc L (rest) τ rc rs := fun ok H locs ls cs ss hW hS h1 h2 h => lv_lload ok.1 ok.2.1 d (lv_at h j hj) (k ok H locs ls cs ss hW hS h1 h2 h)
theorem x_lstore_n {k0 : Fin 4} {i : Nat} {x : Int64} (d : decode κ.2.1 pc = .ok (.lstore_n k0, 1)) (hi : (k0 : Nat) = i) (hn : i + 1 < κ.2.2.1) (hl : xput2 L i (.long x) = L') (k : xX Γ κ (pc + 1) L' rest τ rc rs) : xX Γ κ pc L (.long x :: rest) τ rc rs := fun ok H locs ls cs ss hW hS h1 h2 h => lv_lstore_n ok.1 ok.2.1 d hi h hn hl (fun ls h => k ok H locs ls cs ss hW hS h1 h2 h)
theorem x_lstore {i : Nat} {x : Int64} (d : decode κ.2.1 pc = .ok (.lstore i, 2)) (hn : i + 1 < κ.2.2.1) (hl : xput2 L i (.long x) = L') (k : xX Γ κ (pc + 2) L' rest τ rc rs) : xX Γ κ pc L (.long x :: rest) τ rc rs := fun ok H locs ls cs ss hW hS h1 h2 h => lv_lstore ok.1 ok.2.1 d h hn hl (fun ls h => k ok H locs ls cs ss hW hS h1 h2 h)
theorem x_aload_n {k0 : Fin 4} {i : Nat} {x : Nat} (j : Nat) (d : decode κ.2.1 pc = .ok (.aload_n k0, 1)) (hi : (k0 : Nat) = i) (hj : L[j]? = some (i, .ref x)) (k : xX Γ κ (pc + 1) L (.ref x :: rest) τ rc rs) : xX Γ κ pc L (rest) τ rc rs := fun ok H locs ls cs ss hW hS h1 h2 h => lv_aload_n ok.1 ok.2.1 d hi (lv_at h j hj) (k ok H locs ls cs ss hW hS h1 h2 h)
theorem x_aload {i : Nat} {x : Nat} (j : Nat) (d : decode κ.2.1 pc = .ok (.aload i, 2)) (hj : L[j]? = some (i, .ref x)) (k : xX Γ κ (pc + 2) L (.ref x :: rest) τ rc rs) : xX Γ κ pc L (rest) τ rc rs := fun ok H locs ls cs ss hW hS h1 h2 h => lv_aload ok.1 ok.2.1 d (lv_at h j hj) (k ok H locs ls cs ss hW hS h1 h2 h)
theorem x_astore_n {k0 : Fin 4} {i : Nat} {x : Nat} (d : decode κ.2.1 pc = .ok (.astore_n k0, 1)) (hi : (k0 : Nat) = i) (hn : i < κ.2.2.1) (hl : xput L i (.ref x) = L') (k : xX Γ κ (pc + 1) L' rest τ rc rs) : xX Γ κ pc L (.ref x :: rest) τ rc rs := fun ok H locs ls cs ss hW hS h1 h2 h => lv_astore_n ok.1 ok.2.1 d hi h hn hl (fun ls h => k ok H locs ls cs ss hW hS h1 h2 h)
theorem x_astore {i : Nat} {x : Nat} (d : decode κ.2.1 pc = .ok (.astore i, 2)) (hn : i < κ.2.2.1) (hl : xput L i (.ref x) = L') (k : xX Γ κ (pc + 2) L' rest τ rc rs) : xX Γ κ pc L (.ref x :: rest) τ rc rs := fun ok H locs ls cs ss hW hS h1 h2 h => lv_astore ok.1 ok.2.1 d h hn hl (fun ls h => k ok H locs ls cs ss hW hS h1 h2 h)
theorem x_oload_n {k0 : Fin 4} {i : Nat} {x : Option Nat} (j : Nat) (d : decode κ.2.1 pc = .ok (.aload_n k0, 1)) (hi : (k0 : Nat) = i) (hj : L[j]? = some (i, va_rf x)) (k : xX Γ κ (pc + 1) L (va_rf x :: rest) τ rc rs) : xX Γ κ pc L rest τ rc rs := by
  cases x with
  | none => exact fun ok H locs ls cs ss hW hS h1 h2 h => lv_aload_nN ok.1 ok.2.1 d hi (lv_at h j hj) (k ok H locs ls cs ss hW hS h1 h2 h)
  | some a => exact x_aload_n j d hi hj k
theorem x_oload {i : Nat} {x : Option Nat} (j : Nat) (d : decode κ.2.1 pc = .ok (.aload i, 2)) (hj : L[j]? = some (i, va_rf x)) (k : xX Γ κ (pc + 2) L (va_rf x :: rest) τ rc rs) : xX Γ κ pc L rest τ rc rs := by
  cases x with
  | none => exact fun ok H locs ls cs ss hW hS h1 h2 h => lv_aloadN ok.1 ok.2.1 d (lv_at h j hj) (k ok H locs ls cs ss hW hS h1 h2 h)
  | some a => exact x_aload j d hj k
theorem x_ostore_n {k0 : Fin 4} {i : Nat} {x : Option Nat} (d : decode κ.2.1 pc = .ok (.astore_n k0, 1)) (hi : (k0 : Nat) = i) (hn : i < κ.2.2.1) (hl : xput L i (va_rf x) = L') (k : xX Γ κ (pc + 1) L' rest τ rc rs) : xX Γ κ pc L (va_rf x :: rest) τ rc rs := by
  cases x with
  | none => exact fun ok H locs ls cs ss hW hS h1 h2 h => lv_astore_nN ok.1 ok.2.1 d hi h hn hl (fun ls h => k ok H locs ls cs ss hW hS h1 h2 h)
  | some a => exact x_astore_n d hi hn hl k
theorem x_ostore {i : Nat} {x : Option Nat} (d : decode κ.2.1 pc = .ok (.astore i, 2)) (hn : i < κ.2.2.1) (hl : xput L i (va_rf x) = L') (k : xX Γ κ (pc + 2) L' rest τ rc rs) : xX Γ κ pc L (va_rf x :: rest) τ rc rs := by
  cases x with
  | none => exact fun ok H locs ls cs ss hW hS h1 h2 h => lv_astoreN ok.1 ok.2.1 d h hn hl (fun ls h => k ok H locs ls cs ss hW hS h1 h2 h)
  | some a => exact x_astore d hn hl k
theorem x_iinc {i j : Nat} {n : Int} {x v : Int32} (d : decode κ.2.1 pc = .ok (.iinc i n, 3)) (hj : L[j]? = some (i, .int x)) (hv : x + Int32.ofInt n = v) (hn : i < κ.2.2.1) (hl : xput L i (.int v) = L') (k : xX Γ κ (pc + 3) L' rest τ rc rs) : xX Γ κ pc L rest τ rc rs := fun ok H locs ls cs ss hW hS h1 h2 h => lv_iinc ok.1 ok.2.1 d h hj hv hn hl (fun ls h => k ok H locs ls cs ss hW hS h1 h2 h)
theorem x_iadd {x y : Int32} (d : decode κ.2.1 pc = .ok (.iadd, 1)) (k : xX Γ κ (pc + 1) L (.int (x + y) :: rest) τ rc rs) : xX Γ κ pc L (.int y :: .int x :: rest) τ rc rs := fun ok H locs ls cs ss hW hS h1 h2 h => lv_iadd ok.1 ok.2.1 d (k ok H locs ls cs ss hW hS h1 h2 h)
theorem x_isub {x y : Int32} (d : decode κ.2.1 pc = .ok (.isub, 1)) (k : xX Γ κ (pc + 1) L (.int (x - y) :: rest) τ rc rs) : xX Γ κ pc L (.int y :: .int x :: rest) τ rc rs := fun ok H locs ls cs ss hW hS h1 h2 h => lv_isub ok.1 ok.2.1 d (k ok H locs ls cs ss hW hS h1 h2 h)
theorem x_imul {x y : Int32} (d : decode κ.2.1 pc = .ok (.imul, 1)) (k : xX Γ κ (pc + 1) L (.int (x * y) :: rest) τ rc rs) : xX Γ κ pc L (.int y :: .int x :: rest) τ rc rs := fun ok H locs ls cs ss hW hS h1 h2 h => lv_imul ok.1 ok.2.1 d (k ok H locs ls cs ss hW hS h1 h2 h)
theorem x_iand {x y : Int32} (d : decode κ.2.1 pc = .ok (.iand, 1)) (k : xX Γ κ (pc + 1) L (.int (x &&& y) :: rest) τ rc rs) : xX Γ κ pc L (.int y :: .int x :: rest) τ rc rs := fun ok H locs ls cs ss hW hS h1 h2 h => lv_iand ok.1 ok.2.1 d (k ok H locs ls cs ss hW hS h1 h2 h)
theorem x_ior {x y : Int32} (d : decode κ.2.1 pc = .ok (.ior, 1)) (k : xX Γ κ (pc + 1) L (.int (x ||| y) :: rest) τ rc rs) : xX Γ κ pc L (.int y :: .int x :: rest) τ rc rs := fun ok H locs ls cs ss hW hS h1 h2 h => lv_ior ok.1 ok.2.1 d (k ok H locs ls cs ss hW hS h1 h2 h)
theorem x_ishl {x y : Int32} (d : decode κ.2.1 pc = .ok (.ishl, 1)) (k : xX Γ κ (pc + 1) L (.int (x <<< (y &&& 31)) :: rest) τ rc rs) : xX Γ κ pc L (.int y :: .int x :: rest) τ rc rs := fun ok H locs ls cs ss hW hS h1 h2 h => lv_ishl ok.1 ok.2.1 d (k ok H locs ls cs ss hW hS h1 h2 h)
theorem x_ishr {x y : Int32} (d : decode κ.2.1 pc = .ok (.ishr, 1)) (k : xX Γ κ (pc + 1) L (.int (x >>> (y &&& 31)) :: rest) τ rc rs) : xX Γ κ pc L (.int y :: .int x :: rest) τ rc rs := fun ok H locs ls cs ss hW hS h1 h2 h => lv_ishr ok.1 ok.2.1 d (k ok H locs ls cs ss hW hS h1 h2 h)
theorem x_ladd {x y : Int64} (d : decode κ.2.1 pc = .ok (.ladd, 1)) (k : xX Γ κ (pc + 1) L (.long (x + y) :: rest) τ rc rs) : xX Γ κ pc L (.long y :: .long x :: rest) τ rc rs := fun ok H locs ls cs ss hW hS h1 h2 h => lv_ladd ok.1 ok.2.1 d (k ok H locs ls cs ss hW hS h1 h2 h)
theorem x_lsub {x y : Int64} (d : decode κ.2.1 pc = .ok (.lsub, 1)) (k : xX Γ κ (pc + 1) L (.long (x - y) :: rest) τ rc rs) : xX Γ κ pc L (.long y :: .long x :: rest) τ rc rs := fun ok H locs ls cs ss hW hS h1 h2 h => lv_lsub ok.1 ok.2.1 d (k ok H locs ls cs ss hW hS h1 h2 h)
theorem x_lmul {x y : Int64} (d : decode κ.2.1 pc = .ok (.lmul, 1)) (k : xX Γ κ (pc + 1) L (.long (x * y) :: rest) τ rc rs) : xX Γ κ pc L (.long y :: .long x :: rest) τ rc rs := fun ok H locs ls cs ss hW hS h1 h2 h => lv_lmul ok.1 ok.2.1 d (k ok H locs ls cs ss hW hS h1 h2 h)
theorem x_idiv {x y : Int32} (d : decode κ.2.1 pc = .ok (.idiv, 1)) (hne : ¬ y = 0) (k : xX Γ κ (pc + 1) L (.int (x / y) :: rest) τ rc rs) : xX Γ κ pc L (.int y :: .int x :: rest) τ rc rs := fun ok H locs ls cs ss hW hS h1 h2 h => lv_idiv ok.1 ok.2.1 d hne (k ok H locs ls cs ss hW hS h1 h2 h)
theorem x_irem {x y : Int32} (d : decode κ.2.1 pc = .ok (.irem, 1)) (hne : ¬ y = 0) (k : xX Γ κ (pc + 1) L (.int (xrem x y) :: rest) τ rc rs) : xX Γ κ pc L (.int y :: .int x :: rest) τ rc rs := fun ok H locs ls cs ss hW hS h1 h2 h => lv_irem ok.1 ok.2.1 d hne (k ok H locs ls cs ss hW hS h1 h2 h)
theorem x_ldiv {x y : Int64} (d : decode κ.2.1 pc = .ok (.ldiv, 1)) (hne : ¬ y = 0) (k : xX Γ κ (pc + 1) L (.long (x / y) :: rest) τ rc rs) : xX Γ κ pc L (.long y :: .long x :: rest) τ rc rs := fun ok H locs ls cs ss hW hS h1 h2 h => lv_ldiv ok.1 ok.2.1 d hne (k ok H locs ls cs ss hW hS h1 h2 h)
theorem x_lrem {x y : Int64} (d : decode κ.2.1 pc = .ok (.lrem, 1)) (hne : ¬ y = 0) (k : xX Γ κ (pc + 1) L (.long (xlrem x y) :: rest) τ rc rs) : xX Γ κ pc L (.long y :: .long x :: rest) τ rc rs := fun ok H locs ls cs ss hW hS h1 h2 h => lv_lrem ok.1 ok.2.1 d hne (k ok H locs ls cs ss hW hS h1 h2 h)
theorem x_ineg {x : Int32} (d : decode κ.2.1 pc = .ok (.ineg, 1)) (k : xX Γ κ (pc + 1) L (.int (-x) :: rest) τ rc rs) : xX Γ κ pc L (.int x :: rest) τ rc rs := fun ok H locs ls cs ss hW hS h1 h2 h => lv_ineg ok.1 ok.2.1 d (k ok H locs ls cs ss hW hS h1 h2 h)
theorem x_lneg {x : Int64} (d : decode κ.2.1 pc = .ok (.lneg, 1)) (k : xX Γ κ (pc + 1) L (.long (-x) :: rest) τ rc rs) : xX Γ κ pc L (.long x :: rest) τ rc rs := fun ok H locs ls cs ss hW hS h1 h2 h => lv_lneg ok.1 ok.2.1 d (k ok H locs ls cs ss hW hS h1 h2 h)
theorem x_i2l {x : Int32} (d : decode κ.2.1 pc = .ok (.i2l, 1)) (k : xX Γ κ (pc + 1) L (.long x.toInt64 :: rest) τ rc rs) : xX Γ κ pc L (.int x :: rest) τ rc rs := fun ok H locs ls cs ss hW hS h1 h2 h => lv_i2l ok.1 ok.2.1 d rfl (k ok H locs ls cs ss hW hS h1 h2 h)
theorem x_l2i {x : Int64} (d : decode κ.2.1 pc = .ok (.l2i, 1)) (k : xX Γ κ (pc + 1) L (.int x.toInt32 :: rest) τ rc rs) : xX Γ κ pc L (.long x :: rest) τ rc rs := fun ok H locs ls cs ss hW hS h1 h2 h => lv_l2i ok.1 ok.2.1 d rfl (k ok H locs ls cs ss hW hS h1 h2 h)
theorem x_i2b {x : Int32} (d : decode κ.2.1 pc = .ok (.i2b, 1)) (k : xX Γ κ (pc + 1) L (.int x.toInt8.toInt32 :: rest) τ rc rs) : xX Γ κ pc L (.int x :: rest) τ rc rs := fun ok H locs ls cs ss hW hS h1 h2 h => lv_i2b ok.1 ok.2.1 d rfl (k ok H locs ls cs ss hW hS h1 h2 h)
theorem x_i2c {x : Int32} (d : decode κ.2.1 pc = .ok (.i2c, 1)) (k : xX Γ κ (pc + 1) L (.int (x.toUInt32 % 65536).toInt32 :: rest) τ rc rs) : xX Γ κ pc L (.int x :: rest) τ rc rs := fun ok H locs ls cs ss hW hS h1 h2 h => lv_i2c ok.1 ok.2.1 d rfl (k ok H locs ls cs ss hW hS h1 h2 h)
theorem x_dup {va : Value} (d : decode κ.2.1 pc = .ok (.dup, 1)) (hva : va.category = 1) (k : xX Γ κ (pc + 1) L (va :: va :: rest) τ rc rs) : xX Γ κ pc L (va :: rest) τ rc rs := fun ok H locs ls cs ss hW hS h1 h2 h => lv_dup ok.1 ok.2.1 d hva (k ok H locs ls cs ss hW hS h1 h2 h)
theorem x_pop {va : Value} (d : decode κ.2.1 pc = .ok (.pop, 1)) (hva : va.category = 1) (k : xX Γ κ (pc + 1) L (rest) τ rc rs) : xX Γ κ pc L (va :: rest) τ rc rs := fun ok H locs ls cs ss hW hS h1 h2 h => lv_pop ok.1 ok.2.1 d hva (k ok H locs ls cs ss hW hS h1 h2 h)
theorem x_dup_x1 {va vb : Value} (d : decode κ.2.1 pc = .ok (.dup_x1, 1)) (hva : va.category = 1) (hvb : vb.category = 1) (k : xX Γ κ (pc + 1) L (va :: vb :: va :: rest) τ rc rs) : xX Γ κ pc L (va :: vb :: rest) τ rc rs := fun ok H locs ls cs ss hW hS h1 h2 h => lv_dup_x1 ok.1 ok.2.1 d hva hvb (k ok H locs ls cs ss hW hS h1 h2 h)
theorem x_dup2_11 {va vb : Value} (d : decode κ.2.1 pc = .ok (.dup2, 1)) (hva : va.category = 1) (hvb : vb.category = 1) (k : xX Γ κ (pc + 1) L (va :: vb :: va :: vb :: rest) τ rc rs) : xX Γ κ pc L (va :: vb :: rest) τ rc rs := fun ok H locs ls cs ss hW hS h1 h2 h => lv_dup2_11 ok.1 ok.2.1 d hva hvb (k ok H locs ls cs ss hW hS h1 h2 h)
theorem x_dup2_2 {va : Value} (d : decode κ.2.1 pc = .ok (.dup2, 1)) (hva : va.category = 2) (k : xX Γ κ (pc + 1) L (va :: va :: rest) τ rc rs) : xX Γ κ pc L (va :: rest) τ rc rs := fun ok H locs ls cs ss hW hS h1 h2 h => lv_dup2_2 ok.1 ok.2.1 d hva (k ok H locs ls cs ss hW hS h1 h2 h)
theorem x_null (d : decode κ.2.1 pc = .ok (.aconst_null, 1)) (k : xX Γ κ (pc + 1) L (va_rf none :: rest) τ rc rs) : xX Γ κ pc L (rest) τ rc rs := fun ok H locs ls cs ss hW hS h1 h2 h => lv_null ok.1 ok.2.1 d (k ok H locs ls cs ss hW hS h1 h2 h)
theorem x_goto {off : Int} {tgt : Nat} (d : decode κ.2.1 pc = .ok (.goto off, 3)) (ht : (pc : Int) + off = (tgt : Int)) (k : xX Γ κ tgt L rest τ rc rs) : xX Γ κ pc L rest τ rc rs := fun ok H locs ls cs ss hW hS h1 h2 h => lv_goto ok.1 ok.2.1 d ht (k ok H locs ls cs ss hW hS h1 h2 h)
theorem x_if_eq {x : Int32} {off : Int} {tgt : Nat} (d : decode κ.2.1 pc = .ok (.ifCond .eq off, 3)) (ht : (pc : Int) + off = (tgt : Int)) (kt : x = 0 → xX Γ κ tgt L rest τ rc rs) (kf : ¬ x = 0 → xX Γ κ (pc + 3) L rest τ rc rs) : xX Γ κ pc L (.int x :: rest) τ rc rs := fun ok H locs ls cs ss hW hS h1 h2 h => lv_if_eq ok.1 ok.2.1 d ht (fun q => kt q ok H locs ls cs ss hW hS h1 h2 h) (fun q => kf q ok H locs ls cs ss hW hS h1 h2 h)
theorem x_icmp_eq {x y : Int32} {off : Int} {tgt : Nat} (d : decode κ.2.1 pc = .ok (.if_icmp .eq off, 3)) (ht : (pc : Int) + off = (tgt : Int)) (kt : x = y → xX Γ κ tgt L rest τ rc rs) (kf : ¬ x = y → xX Γ κ (pc + 3) L rest τ rc rs) : xX Γ κ pc L (.int y :: .int x :: rest) τ rc rs := fun ok H locs ls cs ss hW hS h1 h2 h => lv_icmp_eq ok.1 ok.2.1 d ht (fun q => kt q ok H locs ls cs ss hW hS h1 h2 h) (fun q => kf q ok H locs ls cs ss hW hS h1 h2 h)
theorem x_if_ne {x : Int32} {off : Int} {tgt : Nat} (d : decode κ.2.1 pc = .ok (.ifCond .ne off, 3)) (ht : (pc : Int) + off = (tgt : Int)) (kt : ¬ x = 0 → xX Γ κ tgt L rest τ rc rs) (kf : x = 0 → xX Γ κ (pc + 3) L rest τ rc rs) : xX Γ κ pc L (.int x :: rest) τ rc rs := fun ok H locs ls cs ss hW hS h1 h2 h => lv_if_ne ok.1 ok.2.1 d ht (fun q => kt q ok H locs ls cs ss hW hS h1 h2 h) (fun q => kf q ok H locs ls cs ss hW hS h1 h2 h)
theorem x_icmp_ne {x y : Int32} {off : Int} {tgt : Nat} (d : decode κ.2.1 pc = .ok (.if_icmp .ne off, 3)) (ht : (pc : Int) + off = (tgt : Int)) (kt : ¬ x = y → xX Γ κ tgt L rest τ rc rs) (kf : x = y → xX Γ κ (pc + 3) L rest τ rc rs) : xX Γ κ pc L (.int y :: .int x :: rest) τ rc rs := fun ok H locs ls cs ss hW hS h1 h2 h => lv_icmp_ne ok.1 ok.2.1 d ht (fun q => kt q ok H locs ls cs ss hW hS h1 h2 h) (fun q => kf q ok H locs ls cs ss hW hS h1 h2 h)
theorem x_if_lt {x : Int32} {off : Int} {tgt : Nat} (d : decode κ.2.1 pc = .ok (.ifCond .lt off, 3)) (ht : (pc : Int) + off = (tgt : Int)) (kt : x < 0 → xX Γ κ tgt L rest τ rc rs) (kf : ¬ x < 0 → xX Γ κ (pc + 3) L rest τ rc rs) : xX Γ κ pc L (.int x :: rest) τ rc rs := fun ok H locs ls cs ss hW hS h1 h2 h => lv_if_lt ok.1 ok.2.1 d ht (fun q => kt q ok H locs ls cs ss hW hS h1 h2 h) (fun q => kf q ok H locs ls cs ss hW hS h1 h2 h)
theorem x_icmp_lt {x y : Int32} {off : Int} {tgt : Nat} (d : decode κ.2.1 pc = .ok (.if_icmp .lt off, 3)) (ht : (pc : Int) + off = (tgt : Int)) (kt : x < y → xX Γ κ tgt L rest τ rc rs) (kf : ¬ x < y → xX Γ κ (pc + 3) L rest τ rc rs) : xX Γ κ pc L (.int y :: .int x :: rest) τ rc rs := fun ok H locs ls cs ss hW hS h1 h2 h => lv_icmp_lt ok.1 ok.2.1 d ht (fun q => kt q ok H locs ls cs ss hW hS h1 h2 h) (fun q => kf q ok H locs ls cs ss hW hS h1 h2 h)
theorem x_if_ge {x : Int32} {off : Int} {tgt : Nat} (d : decode κ.2.1 pc = .ok (.ifCond .ge off, 3)) (ht : (pc : Int) + off = (tgt : Int)) (kt : 0 ≤ x → xX Γ κ tgt L rest τ rc rs) (kf : ¬ 0 ≤ x → xX Γ κ (pc + 3) L rest τ rc rs) : xX Γ κ pc L (.int x :: rest) τ rc rs := fun ok H locs ls cs ss hW hS h1 h2 h => lv_if_ge ok.1 ok.2.1 d ht (fun q => kt q ok H locs ls cs ss hW hS h1 h2 h) (fun q => kf q ok H locs ls cs ss hW hS h1 h2 h)
theorem x_icmp_ge {x y : Int32} {off : Int} {tgt : Nat} (d : decode κ.2.1 pc = .ok (.if_icmp .ge off, 3)) (ht : (pc : Int) + off = (tgt : Int)) (kt : y ≤ x → xX Γ κ tgt L rest τ rc rs) (kf : ¬ y ≤ x → xX Γ κ (pc + 3) L rest τ rc rs) : xX Γ κ pc L (.int y :: .int x :: rest) τ rc rs := fun ok H locs ls cs ss hW hS h1 h2 h => lv_icmp_ge ok.1 ok.2.1 d ht (fun q => kt q ok H locs ls cs ss hW hS h1 h2 h) (fun q => kf q ok H locs ls cs ss hW hS h1 h2 h)
theorem x_if_gt {x : Int32} {off : Int} {tgt : Nat} (d : decode κ.2.1 pc = .ok (.ifCond .gt off, 3)) (ht : (pc : Int) + off = (tgt : Int)) (kt : 0 < x → xX Γ κ tgt L rest τ rc rs) (kf : ¬ 0 < x → xX Γ κ (pc + 3) L rest τ rc rs) : xX Γ κ pc L (.int x :: rest) τ rc rs := fun ok H locs ls cs ss hW hS h1 h2 h => lv_if_gt ok.1 ok.2.1 d ht (fun q => kt q ok H locs ls cs ss hW hS h1 h2 h) (fun q => kf q ok H locs ls cs ss hW hS h1 h2 h)
theorem x_icmp_gt {x y : Int32} {off : Int} {tgt : Nat} (d : decode κ.2.1 pc = .ok (.if_icmp .gt off, 3)) (ht : (pc : Int) + off = (tgt : Int)) (kt : y < x → xX Γ κ tgt L rest τ rc rs) (kf : ¬ y < x → xX Γ κ (pc + 3) L rest τ rc rs) : xX Γ κ pc L (.int y :: .int x :: rest) τ rc rs := fun ok H locs ls cs ss hW hS h1 h2 h => lv_icmp_gt ok.1 ok.2.1 d ht (fun q => kt q ok H locs ls cs ss hW hS h1 h2 h) (fun q => kf q ok H locs ls cs ss hW hS h1 h2 h)
theorem x_if_le {x : Int32} {off : Int} {tgt : Nat} (d : decode κ.2.1 pc = .ok (.ifCond .le off, 3)) (ht : (pc : Int) + off = (tgt : Int)) (kt : x ≤ 0 → xX Γ κ tgt L rest τ rc rs) (kf : ¬ x ≤ 0 → xX Γ κ (pc + 3) L rest τ rc rs) : xX Γ κ pc L (.int x :: rest) τ rc rs := fun ok H locs ls cs ss hW hS h1 h2 h => lv_if_le ok.1 ok.2.1 d ht (fun q => kt q ok H locs ls cs ss hW hS h1 h2 h) (fun q => kf q ok H locs ls cs ss hW hS h1 h2 h)
theorem x_icmp_le {x y : Int32} {off : Int} {tgt : Nat} (d : decode κ.2.1 pc = .ok (.if_icmp .le off, 3)) (ht : (pc : Int) + off = (tgt : Int)) (kt : x ≤ y → xX Γ κ tgt L rest τ rc rs) (kf : ¬ x ≤ y → xX Γ κ (pc + 3) L rest τ rc rs) : xX Γ κ pc L (.int y :: .int x :: rest) τ rc rs := fun ok H locs ls cs ss hW hS h1 h2 h => lv_icmp_le ok.1 ok.2.1 d ht (fun q => kt q ok H locs ls cs ss hW hS h1 h2 h) (fun q => kf q ok H locs ls cs ss hW hS h1 h2 h)
theorem xcmp_lt (x y : Int64) : lg_cmp x y < 0 ↔ x < y := by
  unfold lg_cmp
  simp only [gt_iff_lt, Int64.lt_iff_toInt_lt, Int64.le_iff_toInt_le, ← Int64.toInt_inj, Int32.lt_iff_toInt_lt, Int32.le_iff_toInt_le, ← Int32.toInt_inj]
  repeat' split
  all_goals first | (constructor <;> intro q <;> first | omega | (exfalso; revert q; decide)) | (constructor <;> intro q <;> simp at q ⊢ <;> omega)
theorem xcmp_ge (x y : Int64) : 0 ≤ lg_cmp x y ↔ y ≤ x := by
  unfold lg_cmp
  simp only [gt_iff_lt, Int64.lt_iff_toInt_lt, Int64.le_iff_toInt_le, ← Int64.toInt_inj, Int32.lt_iff_toInt_lt, Int32.le_iff_toInt_le, ← Int32.toInt_inj]
  repeat' split
  all_goals first | (constructor <;> intro q <;> first | omega | (exfalso; revert q; decide)) | (constructor <;> intro q <;> simp at q ⊢ <;> omega)
theorem xcmp_gt (x y : Int64) : 0 < lg_cmp x y ↔ y < x := by
  unfold lg_cmp
  simp only [gt_iff_lt, Int64.lt_iff_toInt_lt, Int64.le_iff_toInt_le, ← Int64.toInt_inj, Int32.lt_iff_toInt_lt, Int32.le_iff_toInt_le, ← Int32.toInt_inj]
  repeat' split
  all_goals first | (constructor <;> intro q <;> first | omega | (exfalso; revert q; decide)) | (constructor <;> intro q <;> simp at q ⊢ <;> omega)
theorem xcmp_le (x y : Int64) : lg_cmp x y ≤ 0 ↔ x ≤ y := by
  unfold lg_cmp
  simp only [gt_iff_lt, Int64.lt_iff_toInt_lt, Int64.le_iff_toInt_le, ← Int64.toInt_inj, Int32.lt_iff_toInt_lt, Int32.le_iff_toInt_le, ← Int32.toInt_inj]
  repeat' split
  all_goals first | (constructor <;> intro q <;> first | omega | (exfalso; revert q; decide)) | (constructor <;> intro q <;> simp at q ⊢ <;> omega)
theorem xcmp_eq (x y : Int64) : lg_cmp x y = 0 ↔ x = y := by
  unfold lg_cmp
  simp only [gt_iff_lt, Int64.lt_iff_toInt_lt, Int64.le_iff_toInt_le, ← Int64.toInt_inj, Int32.lt_iff_toInt_lt, Int32.le_iff_toInt_le, ← Int32.toInt_inj]
  repeat' split
  all_goals first | (constructor <;> intro q <;> first | omega | (exfalso; revert q; decide)) | (constructor <;> intro q <;> simp at q ⊢ <;> omega)
theorem x_lcmp_eq {x y : Int64} {off : Int} {tgt : Nat} (d0 : decode κ.2.1 pc = .ok (.lcmp, 1)) (d : decode κ.2.1 (pc + 1) = .ok (.ifCond .eq off, 3)) (ht : ((pc + 1 : Nat) : Int) + off = (tgt : Int)) (kt : x = y → xX Γ κ tgt L rest τ rc rs) (kf : ¬ x = y → xX Γ κ (pc + 1 + 3) L rest τ rc rs) : xX Γ κ pc L (.long y :: .long x :: rest) τ rc rs := fun ok H locs ls cs ss hW hS h1 h2 h => W.lcmp ok.1 ok.2.1 d0 (x_if_eq (x := lg_cmp x y) d ht (fun q => kt ((xcmp_eq x y).mp q)) (fun q => kf (fun z => q ((xcmp_eq x y).mpr z))) ok H locs ls cs ss hW hS h1 h2 h)
theorem x_lcmp_ne {x y : Int64} {off : Int} {tgt : Nat} (d0 : decode κ.2.1 pc = .ok (.lcmp, 1)) (d : decode κ.2.1 (pc + 1) = .ok (.ifCond .ne off, 3)) (ht : ((pc + 1 : Nat) : Int) + off = (tgt : Int)) (kt : ¬ x = y → xX Γ κ tgt L rest τ rc rs) (kf : x = y → xX Γ κ (pc + 1 + 3) L rest τ rc rs) : xX Γ κ pc L (.long y :: .long x :: rest) τ rc rs := fun ok H locs ls cs ss hW hS h1 h2 h => W.lcmp ok.1 ok.2.1 d0 (x_if_ne (x := lg_cmp x y) d ht (fun q => kt (fun z => q ((xcmp_eq x y).mpr z))) (fun q => kf ((xcmp_eq x y).mp q)) ok H locs ls cs ss hW hS h1 h2 h)
theorem x_lcmp_lt {x y : Int64} {off : Int} {tgt : Nat} (d0 : decode κ.2.1 pc = .ok (.lcmp, 1)) (d : decode κ.2.1 (pc + 1) = .ok (.ifCond .lt off, 3)) (ht : ((pc + 1 : Nat) : Int) + off = (tgt : Int)) (kt : x < y → xX Γ κ tgt L rest τ rc rs) (kf : ¬ x < y → xX Γ κ (pc + 1 + 3) L rest τ rc rs) : xX Γ κ pc L (.long y :: .long x :: rest) τ rc rs := fun ok H locs ls cs ss hW hS h1 h2 h => W.lcmp ok.1 ok.2.1 d0 (x_if_lt (x := lg_cmp x y) d ht (fun q => kt ((xcmp_lt x y).mp q)) (fun q => kf (fun z => q ((xcmp_lt x y).mpr z))) ok H locs ls cs ss hW hS h1 h2 h)
theorem x_lcmp_ge {x y : Int64} {off : Int} {tgt : Nat} (d0 : decode κ.2.1 pc = .ok (.lcmp, 1)) (d : decode κ.2.1 (pc + 1) = .ok (.ifCond .ge off, 3)) (ht : ((pc + 1 : Nat) : Int) + off = (tgt : Int)) (kt : y ≤ x → xX Γ κ tgt L rest τ rc rs) (kf : ¬ y ≤ x → xX Γ κ (pc + 1 + 3) L rest τ rc rs) : xX Γ κ pc L (.long y :: .long x :: rest) τ rc rs := fun ok H locs ls cs ss hW hS h1 h2 h => W.lcmp ok.1 ok.2.1 d0 (x_if_ge (x := lg_cmp x y) d ht (fun q => kt ((xcmp_ge x y).mp q)) (fun q => kf (fun z => q ((xcmp_ge x y).mpr z))) ok H locs ls cs ss hW hS h1 h2 h)
theorem x_lcmp_gt {x y : Int64} {off : Int} {tgt : Nat} (d0 : decode κ.2.1 pc = .ok (.lcmp, 1)) (d : decode κ.2.1 (pc + 1) = .ok (.ifCond .gt off, 3)) (ht : ((pc + 1 : Nat) : Int) + off = (tgt : Int)) (kt : y < x → xX Γ κ tgt L rest τ rc rs) (kf : ¬ y < x → xX Γ κ (pc + 1 + 3) L rest τ rc rs) : xX Γ κ pc L (.long y :: .long x :: rest) τ rc rs := fun ok H locs ls cs ss hW hS h1 h2 h => W.lcmp ok.1 ok.2.1 d0 (x_if_gt (x := lg_cmp x y) d ht (fun q => kt ((xcmp_gt x y).mp q)) (fun q => kf (fun z => q ((xcmp_gt x y).mpr z))) ok H locs ls cs ss hW hS h1 h2 h)
theorem x_lcmp_le {x y : Int64} {off : Int} {tgt : Nat} (d0 : decode κ.2.1 pc = .ok (.lcmp, 1)) (d : decode κ.2.1 (pc + 1) = .ok (.ifCond .le off, 3)) (ht : ((pc + 1 : Nat) : Int) + off = (tgt : Int)) (kt : x ≤ y → xX Γ κ tgt L rest τ rc rs) (kf : ¬ x ≤ y → xX Γ κ (pc + 1 + 3) L rest τ rc rs) : xX Γ κ pc L (.long y :: .long x :: rest) τ rc rs := fun ok H locs ls cs ss hW hS h1 h2 h => W.lcmp ok.1 ok.2.1 d0 (x_if_le (x := lg_cmp x y) d ht (fun q => kt ((xcmp_le x y).mp q)) (fun q => kf (fun z => q ((xcmp_le x y).mpr z))) ok H locs ls cs ss hW hS h1 h2 h)
theorem x_ifnull {x : Option Nat} {off : Int} {tgt : Nat} (d : decode κ.2.1 pc = .ok (.ifnull off, 3)) (ht : (pc : Int) + off = (tgt : Int)) (kt : x = none → xX Γ κ tgt L rest τ rc rs) (kf : ∀ a : Nat, x = some a → xX Γ κ (pc + 3) L rest τ rc rs) : xX Γ κ pc L (va_rf x :: rest) τ rc rs := by
  cases x with
  | none => exact fun ok H locs ls cs ss hW hS h1 h2 h => lv_ifnullN ok.1 ok.2.1 d ht (kt rfl ok H locs ls cs ss hW hS h1 h2 h)
  | some a => exact fun ok H locs ls cs ss hW hS h1 h2 h => lv_ifnull ok.1 ok.2.1 d (kf a rfl ok H locs ls cs ss hW hS h1 h2 h)
theorem x_ifnonnull {x : Option Nat} {off : Int} {tgt : Nat} (d : decode κ.2.1 pc = .ok (.ifnonnull off, 3)) (ht : (pc : Int) + off = (tgt : Int)) (kt : ∀ a : Nat, x = some a → xX Γ κ tgt L rest τ rc rs) (kf : x = none → xX Γ κ (pc + 3) L rest τ rc rs) : xX Γ κ pc L (va_rf x :: rest) τ rc rs := by
  cases x with
  | none => exact fun ok H locs ls cs ss hW hS h1 h2 h => lv_ifnonnullN ok.1 ok.2.1 d (kf rfl ok H locs ls cs ss hW hS h1 h2 h)
  | some a => exact fun ok H locs ls cs ss hW hS h1 h2 h => lv_ifnonnull ok.1 ok.2.1 d ht (kt a rfl ok H locs ls cs ss hW hS h1 h2 h)
theorem x_acmp_eq {rx ry : Option Nat} {off : Int} {tgt : Nat} (d : decode κ.2.1 pc = .ok (.if_acmp .eq off, 3)) (ht : (pc : Int) + off = (tgt : Int)) (kt : rx = ry → xX Γ κ tgt L rest τ rc rs) (kf : ¬ rx = ry → xX Γ κ (pc + 3) L rest τ rc rs) : xX Γ κ pc L (va_rf ry :: va_rf rx :: rest) τ rc rs := fun ok H locs ls cs ss hW hS h1 h2 h => lv_acmp_eq ok.1 ok.2.1 d ht (fun q => kt q ok H locs ls cs ss hW hS h1 h2 h) (fun q => kf q ok H locs ls cs ss hW hS h1 h2 h)
theorem x_acmp_ne {rx ry : Option Nat} {off : Int} {tgt : Nat} (d : decode κ.2.1 pc = .ok (.if_acmp .ne off, 3)) (ht : (pc : Int) + off = (tgt : Int)) (kt : ¬ rx = ry → xX Γ κ tgt L rest τ rc rs) (kf : rx = ry → xX Γ κ (pc + 3) L rest τ rc rs) : xX Γ κ pc L (va_rf ry :: va_rf rx :: rest) τ rc rs := fun ok H locs ls cs ss hW hS h1 h2 h => lv_acmp_ne ok.1 ok.2.1 d ht (fun q => kt q ok H locs ls cs ss hW hS h1 h2 h) (fun q => kf q ok H locs ls cs ss hW hS h1 h2 h)
theorem x_tableOut {dflt lo hi : Int} {offs : Array Int} {len : Nat} {x : Int32} {tgt : Nat} (d : decode κ.2.1 pc = .ok (.tableswitch dflt lo hi offs, len)) (hq : x.toInt < lo ∨ hi < x.toInt) (ht : (pc : Int) + dflt = (tgt : Int)) (k : xX Γ κ tgt L rest τ rc rs) : xX Γ κ pc L (.int x :: rest) τ rc rs := fun ok H locs ls cs ss hW hS h1 h2 h => lv_tableOut ok.1 ok.2.1 d hq ht (k ok H locs ls cs ss hW hS h1 h2 h)
theorem x_tableIn {dflt lo hi : Int} {offs : Array Int} {len : Nat} {x : Int32} {off : Int} {tgt : Nat} (d : decode κ.2.1 pc = .ok (.tableswitch dflt lo hi offs, len)) (q1 : ¬ x.toInt < lo) (q2 : ¬ hi < x.toInt) (ho : offs[(x.toInt - lo).toNat]? = some off) (ht : (pc : Int) + off = (tgt : Int)) (k : xX Γ κ tgt L rest τ rc rs) : xX Γ κ pc L (.int x :: rest) τ rc rs := fun ok H locs ls cs ss hW hS h1 h2 h => lv_tableIn ok.1 ok.2.1 d q1 q2 ho ht (k ok H locs ls cs ss hW hS h1 h2 h)
end XROWS
end
section
/-! ===== the rows that read and write the picture ===== -/
theorem xP1 {D : va_G} {cl : List vw_C} {q : Nat × va_E} {H : Heap} (h : va_at D cl q H) : va_P D cl [q] H := by
  intro k q' hk
  have hz : k < 1 := (List.getElem?_eq_some_iff.mp hk).1
  rw [show k = 0 by omega] at hk
  cases hk
  exact h
theorem xCl_lt {ci : Nat} {q : vw_C} (h : xCl[ci]? = some q) : ci < 11 := (List.getElem?_eq_some_iff.mp h).1
/-- a field of the class number ci, its place k, by the entry idx of the class own: to be read -/
def xFL (own : String) (idx ci k : Nat) : Prop := ∃ (C : String) (T : u_T) (N : Nat) (ref : String), xCl[ci]? = some (C, T, N) ∧ (∀ w ∈ u_ws C T N, w ∈ xBW) ∧ k < N ∧ Cond.fieldLink own idx ref (T k).2.1 (T k).2.2.1 ∈ xBW ∧ (ref = (T k).1 ∨ Cond.sameField ref (T k).1 (T k).2.1 (T k).2.2.1 ∈ xBW)
/-- .. to be written (fin: a final field in its constructor) -/
def xFP (own : String) (idx ci k : Nat) (ty : FieldType) (fin : Bool) : Prop := ∃ (C : String) (T : u_T) (N : Nat) (ref : String) (ty0 : Nat → FieldType), xCl[ci]? = some (C, T, N) ∧ (∀ w ∈ u_ws C T N, w ∈ xBW) ∧ k < N ∧ Cond.fieldLink own idx ref (T k).2.1 (T k).2.2.1 ∈ xBW ∧ (ref = (T k).1 ∨ Cond.sameField ref (T k).1 (T k).2.1 (T k).2.2.1 ∈ xBW) ∧
  (∀ k, k < N → parseFieldDescriptor (T k).2.2.1 = some (ty0 k)) ∧ (∀ a, a < N → ∀ b, b < N → a ≠ b → (T a).2.1 ≠ (T b).2.1) ∧ (T k).2.2.2 = fin ∧ parseFieldDescriptor (T k).2.2.1 = some ty ∧ (fin = true → (T k).1 = own)
/-- a class that can be made: its number, its fields as they begin -/
def xNL (own : String) (idx ci : Nat) (fs : List Value) : Prop := ∃ (C : String) (T : u_T) (N : Nat) (ty0 : Nat → FieldType), xCl[ci]? = some (C, T, N) ∧ (∀ w ∈ u_ws C T N, w ∈ xBW) ∧ Cond.classLink own idx C ∈ xBW ∧ Cond.instantiable C N ∈ xBW ∧ Cond.initialized C ∈ xBW ∧ (∀ k, k < N → parseFieldDescriptor (T k).2.2.1 = some (ty0 k)) ∧ (∀ j, j < N → defaultValue (ty0 j) = vp_V fs j) ∧ N = fs.length
theorem xsame {s : State} {args : Array Value} {ref o n d : String} (hw : ∀ w ∈ xBW, w.before args s = true) (h : ref = o ∨ Cond.sameField ref o n d ∈ xBW) : ∀ x, s.fieldFound? o n d = some x → s.fieldFound? ref n d = some x := by
  intro x hx
  rcases h with h | h
  · rw [h]; exact hx
  · exact u_same (hw _ h) x hx
theorem xat_arr {G : xG} {s : State} {a k : Nat} {x : vp_A} {H : Heap} (hk : k < 7) (h : H[a]? = some (vp_cell (G.2.1 k) x)) (hA : xA G a) : xat G s a (.inl (k, x)) H := ⟨fun _ => ⟨h, hA⟩, fun q => absurd q (by omega), fun q => absurd q (by omega)⟩
theorem xat_obj {G : xG} {s : State} {a ci : Nat} {fs : List Value} {H : Heap} (hk : ci < 11) (h : va_at G.1 xCl (a, .inr (ci, fs)) H) (hA : xA G a) : xat G s a (.inr (ci, fs)) H := ⟨fun _ => ⟨h, hA⟩, fun q => absurd q (by omega)⟩
theorem xcf {args : Array Value} {s : State} {own C : String} {T : u_T} {N k : Nat} {c : ClassId} {cf fi : Nat} {kf : Class} {f : Field} {Ts : List Cond} (hts : ∀ w ∈ Ts, w.before args s = true) (hin : ∀ w ∈ u_ws C T N, w ∈ Ts) (hk : k < N) (hfin : (T k).2.2.2 = true) (hdecl : (T k).1 = own) (hown : s.vm.findClass own = some c) (hi : s.fieldFound? (T k).1 (T k).2.1 (T k).2.2.1 = some (cf, kf, fi, f)) : c = cf := by
  have h := hts _ (hin _ (u_in_lay hk))
  unfold u_lay at h
  rw [if_pos hfin] at h
  obtain ⟨_, _, c', _, _, _, -, -, hf', -, -, -, hown2, -⟩ := Cond.laysFinal_spec h
  have e1 : c' = cf := by have := hi.symm.trans hf'; simp at this; exact this.1.symm
  rw [hdecl] at hown2
  rw [← e1]; exact Option.some.inj (hown.symm.trans hown2)
section XHEAP
variable {Γ : xΓ} {κ : xκ} {pc : Nat} {L : List (Nat × Value)} {rest : List Value} {τ : xT} {rc rs : Nat} {a : Nat}
theorem x_get {ci k idx : Nat} {fs : List Value} {v : Value} (d : decode κ.2.1 pc = .ok (.getfield idx, 3)) (w : xFL κ.1 idx ci k) (hτ : τ a = some (.inr (ci, fs))) (hv : fs[k]? = some v) (kk : xX Γ κ (pc + 3) L (v :: rest) τ rc rs) : xX Γ κ pc L (.ref a :: rest) τ rc rs := by
  intro ok H locs ls cs ss hW hS h1 h2 h
  obtain ⟨C, T, N, ref, hc, hin, hk, hl, hs⟩ := w
  have hci := xCl_lt hc
  exact va_get ok.1 ok.2.1 ok.2.2.2.2.1 hin ok.2.2.2.1 ok.2.2.2.2.2.1.1 (xP1 ((hW a _ hτ).1 (by omega)).1) 0 rfl hc k hk (ok.2.2.2.2.1 _ hl) (xsame ok.2.2.2.2.1 hs) hv d (kk ok H locs ls cs ss hW hS h1 h2 h)
theorem x_put {ci k idx : Nat} {fs : List Value} {v : Value} {ty : FieldType} (d : decode κ.2.1 pc = .ok (.putfield idx, 3)) (w : xFP κ.1 idx ci k ty false) (hτ : τ a = some (.inr (ci, fs))) (hn : narrow ty v = v) (hf : fits ty v = true) (hl : k < fs.length) (kk : xX Γ κ (pc + 3) L rest (xup τ a (.inr (ci, fs.set k v))) rc rs) : xX Γ κ pc L (v :: .ref a :: rest) τ rc rs := by
  intro ok H locs ls cs ss hW hS h1 h2 h
  obtain ⟨C, T, N, ref, ty0, hc, hin, hk, hlk, hs, hty, hnm, hfin, hd, -⟩ := w
  have hci := xCl_lt hc
  obtain ⟨hat, hA⟩ := (hW a _ hτ).1 (by omega)
  have hK := ok.2.2.2.2.2.1.1
  have hts := ok.2.2.2.2.1
  have hap := va_apart (own := κ.1) hts hin ty0 hty hnm hK hc
  obtain ⟨r, e1, cell, q1, q2, q3, q4⟩ := hat
  have hr : r = (C, T, N) := Option.some.inj (e1.symm.trans hc)
  subst hr
  obtain ⟨hSl, hfc, kC, hkC, hkind⟩ := hK.1 ci _ hc
  obtain ⟨cf, kf, fi, f, hi, hsl⟩ := hSl k hk
  have hlay := hts _ (hin _ (u_in_lay hk))
  unfold u_lay at hlay
  rw [if_neg (by rw [hfin]; decide)] at hlay
  have hst := (u_facts hfc hkC (u_lays hts hin hk) hi).1
  have h6 := u_store hfc hkC hkind hlay hi hd hn hf
  refine W.putK ok.1 ok.2.1 (f := f) ⟨ok.2.2.2.1, hts _ hlk, ⟨_, _, _, xsame hts hs _ hi⟩, hst⟩ (by rw [q2]; exact h6) q1 q3 (by rw [hsl]; exact k2_hasslot (q4 k hk)) rfl rfl d fun H' e1 e2 e3 => ?_
  rw [hsl] at e1 ⊢
  refine kk ok H' _ ls cs ss (hW.set (xat_obj hci ⟨_, hc, t_OB.to (V := updV (vp_V fs) k v) ⟨_, e1, q2, q3, t_set q4 hap hk v⟩ (fun j _ => vp_updV_set hl v j)⟩ hA) e3) (hS.put e2 e3 hA) h1 h2 h
theorem x_putF {ci k idx : Nat} {fs : List Value} {v : Value} {ty : FieldType} (d : decode κ.2.1 pc = .ok (.putfield idx, 3)) (w : xFP κ.1 idx ci k ty true) (hin2 : (gM Γ).name = "<init>") (hτ : τ a = some (.inr (ci, fs))) (hn : narrow ty v = v) (hf : fits ty v = true) (hl : k < fs.length) (kk : xX Γ κ (pc + 3) L rest (xup τ a (.inr (ci, fs.set k v))) rc rs) : xX Γ κ pc L (v :: .ref a :: rest) τ rc rs := by
  intro ok H locs ls cs ss hW hS h1 h2 h
  obtain ⟨C, T, N, ref, ty0, hc, hin, hk, hlk, hs, hty, hnm, hfin, hd, hdecl⟩ := w
  have hci := xCl_lt hc
  obtain ⟨hat, hA⟩ := (hW a _ hτ).1 (by omega)
  have hK := ok.2.2.2.2.2.1.1
  have hts := ok.2.2.2.2.1
  have hap := va_apart (own := κ.1) hts hin ty0 hty hnm hK hc
  obtain ⟨r, e1, cell, q1, q2, q3, q4⟩ := hat
  have hr : r = (C, T, N) := Option.some.inj (e1.symm.trans hc)
  subst hr
  obtain ⟨hSl, hfc, kC, hkC, hkind⟩ := hK.1 ci _ hc
  obtain ⟨cf, kf, fi, f, hi, hsl⟩ := hSl k hk
  have hst := (u_facts hfc hkC (u_lays hts hin hk) hi).1
  have h6 := u_fits hfc hkC hkind (u_lays hts hin hk) hi hd hn hf
  have hcf : (gm Γ).cls = cf := by
    have hy := hdecl rfl
    exact xcf hts hin hk hfin hy ok.2.2.2.1 hi
  refine W.putFinK ok.1 ok.2.1 ok.2.2.2.1 (hts _ hlk) (xsame hts hs _ hi) hst hcf hin2 (by rw [q2]; exact h6) q1 q3 (by rw [hsl]; exact k2_hasslot (q4 k hk)) rfl rfl d fun H' e1 e2 e3 => ?_
  rw [hsl] at e1 ⊢
  refine kk ok H' _ ls cs ss (hW.set (xat_obj hci ⟨_, hc, t_OB.to (V := updV (vp_V fs) k v) ⟨_, e1, q2, q3, t_set q4 hap hk v⟩ (fun j _ => vp_updV_set hl v j)⟩ hA) e3) (hS.put e2 e3 hA) h1 h2 h
/-- a String's own fields -/
theorem x_strV {idx v : Nat} {c : Int32} (d : decode κ.2.1 pc = .ok (.getfield idx, 3)) (w : Cond.fieldLink κ.1 idx "java/lang/String" "value" "[B" ∈ xBW) (hτ : τ a = some (.inr (11, [.ref v, .int c]))) (kk : xX Γ κ (pc + 3) L (.ref v :: rest) τ rc rs) : xX Γ κ pc L (.ref a :: rest) τ rc rs := by
  intro ok H locs ls cs ss hW hS h1 h2 h
  obtain ⟨-, v', c', e, ⟨cf, kf, fi, f, cell, q1, q2, q3, q4, q5, -⟩, -⟩ := (hW a _ hτ).2 rfl
  cases e
  exact W.getf ok.1 ok.2.1 ok.2.2.2.1 (ok.2.2.2.2.1 _ w) q1 q2 q3 q4 q5 rfl rfl d (kk ok H locs ls cs ss hW hS h1 h2 h)
theorem x_strC {idx v : Nat} {c : Int32} (d : decode κ.2.1 pc = .ok (.getfield idx, 3)) (w : Cond.fieldLink κ.1 idx "java/lang/String" "coder" "B" ∈ xBW) (hτ : τ a = some (.inr (11, [.ref v, .int c]))) (kk : xX Γ κ (pc + 3) L (.int c :: rest) τ rc rs) : xX Γ κ pc L (.ref a :: rest) τ rc rs := by
  intro ok H locs ls cs ss hW hS h1 h2 h
  obtain ⟨-, v', c', e, -, ⟨cf, kf, fi, f, cell, q1, q2, q3, q4, q5, -⟩⟩ := (hW a _ hτ).2 rfl
  cases e
  exact W.getf ok.1 ok.2.1 ok.2.2.2.1 (ok.2.2.2.2.1 _ w) q1 q2 q3 q4 q5 rfl rfl d (kk ok H locs ls cs ss hW hS h1 h2 h)
theorem x_iald {n : Nat} {f : Nat → Int32} {i : Int32} (d : decode κ.2.1 pc = .ok (.iaload, 1)) (hτ : τ a = some (.inl (0, n, .inl f))) (hin : vp_in i n) (kk : xX Γ κ (pc + 1) L (.int (f i.toNatClampNeg) :: rest) τ rc rs) : xX Γ κ pc L (.int i :: .ref a :: rest) τ rc rs := by
  intro ok H locs ls cs ss hW hS h1 h2 h
  exact va_iald ok.1 ok.2.1 ok.2.2.2.2.2.1.1 (xP1 (q := (a, .inl ((gG Γ).2.1 0, n, .inl f))) ((hW a _ hτ).1 (by decide)).1) 0 0 rfl rfl hin d (kk ok H locs ls cs ss hW hS h1 h2 h)
theorem x_lald {n : Nat} {f : Nat → Int64} {i : Int32} (d : decode κ.2.1 pc = .ok (.laload, 1)) (hτ : τ a = some (.inl (1, n, .inr (.inl f)))) (hin : vp_in i n) (kk : xX Γ κ (pc + 1) L (.long (f i.toNatClampNeg) :: rest) τ rc rs) : xX Γ κ pc L (.int i :: .ref a :: rest) τ rc rs := by
  intro ok H locs ls cs ss hW hS h1 h2 h
  exact va_lald ok.1 ok.2.1 ok.2.2.2.2.2.1.1 (xP1 (q := (a, .inl ((gG Γ).2.1 1, n, .inr (.inl f)))) ((hW a _ hτ).1 (by decide)).1) 0 1 rfl rfl hin d (kk ok H locs ls cs ss hW hS h1 h2 h)
theorem x_zald {n : Nat} {f : Nat → Int32} {i : Int32} (d : decode κ.2.1 pc = .ok (.baload, 1)) (hτ : τ a = some (.inl (2, n, .inl f))) (hin : vp_in i n) (kk : xX Γ κ (pc + 1) L (.int (f i.toNatClampNeg) :: rest) τ rc rs) : xX Γ κ pc L (.int i :: .ref a :: rest) τ rc rs := by
  intro ok H locs ls cs ss hW hS h1 h2 h
  exact va_zald ok.1 ok.2.1 ok.2.2.2.2.2.1.1 (xP1 (q := (a, .inl ((gG Γ).2.1 2, n, .inl f))) ((hW a _ hτ).1 (by decide)).1) 0 2 rfl rfl hin d (kk ok H locs ls cs ss hW hS h1 h2 h)
theorem x_bald3 {n : Nat} {f : Nat → Int32} {i : Int32} (d : decode κ.2.1 pc = .ok (.baload, 1)) (hτ : τ a = some (.inl (3, n, .inl f))) (hin : vp_in i n) (kk : xX Γ κ (pc + 1) L (.int (f i.toNatClampNeg) :: rest) τ rc rs) : xX Γ κ pc L (.int i :: .ref a :: rest) τ rc rs := by
  intro ok H locs ls cs ss hW hS h1 h2 h
  exact va_bald ok.1 ok.2.1 ok.2.2.2.2.2.1.1 (xP1 (q := (a, .inl ((gG Γ).2.1 3, n, .inl f))) ((hW a _ hτ).1 (by decide)).1) 0 3 rfl rfl hin d (kk ok H locs ls cs ss hW hS h1 h2 h)
theorem x_cald {n : Nat} {f : Nat → Int32} {i : Int32} (d : decode κ.2.1 pc = .ok (.caload, 1)) (hτ : τ a = some (.inl (4, n, .inl f))) (hin : vp_in i n) (kk : xX Γ κ (pc + 1) L (.int (f i.toNatClampNeg) :: rest) τ rc rs) : xX Γ κ pc L (.int i :: .ref a :: rest) τ rc rs := by
  intro ok H locs ls cs ss hW hS h1 h2 h
  exact va_cald ok.1 ok.2.1 ok.2.2.2.2.2.1.1 (xP1 (q := (a, .inl ((gG Γ).2.1 4, n, .inl f))) ((hW a _ hτ).1 (by decide)).1) 0 4 rfl rfl hin d (kk ok H locs ls cs ss hW hS h1 h2 h)
theorem x_bald7 {n : Nat} {f : Nat → Int32} {i : Int32} (d : decode κ.2.1 pc = .ok (.baload, 1)) (hτ : τ a = some (.inl (7, n, .inl f))) (hin : vp_in i n) (kk : xX Γ κ (pc + 1) L (.int (f i.toNatClampNeg) :: rest) τ rc rs) : xX Γ κ pc L (.int i :: .ref a :: rest) τ rc rs := by
  intro ok H locs ls cs ss hW hS h1 h2 h
  obtain ⟨g, e, cell, q1, q2, q3, q4, q5, q6, -⟩ := (hW a _ hτ).2.1 rfl
  cases e
  have hlt : i.toNatClampNeg < n := Nat.not_le.mp fun q => hin (Or.inr q)
  exact W.bald (v := .int (f i.toNatClampNeg)) ok.1 ok.2.1 q1 q2 q3 (fun q => by rcases q with q | q; exact hin (Or.inl q); exact absurd (Nat.le_trans q4 q) (by omega)) (q6 _ hlt) rfl rfl d (kk ok H locs ls cs ss hW hS h1 h2 h)
theorem x_bald {n k : Nat} {f : Nat → Int32} {i : Int32} (d : decode κ.2.1 pc = .ok (.baload, 1)) (hτ : τ a = some (.inl (k, n, .inl f))) (hk : k = 3 ∨ k = 7) (hin : vp_in i n) (kk : xX Γ κ (pc + 1) L (.int (f i.toNatClampNeg) :: rest) τ rc rs) : xX Γ κ pc L (.int i :: .ref a :: rest) τ rc rs := by
  rcases hk with rfl | rfl
  · exact x_bald3 d hτ hin kk
  · exact x_bald7 d hτ hin kk
theorem x_aald5 {n : Nat} {f : Nat → Option Nat} {i : Int32} (d : decode κ.2.1 pc = .ok (.aaload, 1)) (hτ : τ a = some (.inl (5, n, .inr (.inr (.inr (.inr f)))))) (hin : vp_in i n) (kk : xX Γ κ (pc + 1) L (va_rf (f i.toNatClampNeg) :: rest) τ rc rs) : xX Γ κ pc L (.int i :: .ref a :: rest) τ rc rs := by
  intro ok H locs ls cs ss hW hS h1 h2 h
  exact va_aldq ok.1 ok.2.1 ok.2.2.2.2.2.1.1 (xP1 (q := (a, .inl ((gG Γ).2.1 5, n, .inr (.inr (.inr (.inr f)))))) ((hW a _ hτ).1 (by decide)).1) 0 5 rfl rfl hin d (kk ok H locs ls cs ss hW hS h1 h2 h)
theorem x_aald6 {n : Nat} {f : Nat → Option Nat} {i : Int32} (d : decode κ.2.1 pc = .ok (.aaload, 1)) (hτ : τ a = some (.inl (6, n, .inr (.inr (.inr (.inr f)))))) (hin : vp_in i n) (kk : xX Γ κ (pc + 1) L (va_rf (f i.toNatClampNeg) :: rest) τ rc rs) : xX Γ κ pc L (.int i :: .ref a :: rest) τ rc rs := by
  intro ok H locs ls cs ss hW hS h1 h2 h
  exact va_aldq ok.1 ok.2.1 ok.2.2.2.2.2.1.1 (xP1 (q := (a, .inl ((gG Γ).2.1 6, n, .inr (.inr (.inr (.inr f)))))) ((hW a _ hτ).1 (by decide)).1) 0 6 rfl rfl hin d (kk ok H locs ls cs ss hW hS h1 h2 h)
theorem xup_cell {G : xG} {k n j : Nat} {f : Nat → Int32} {x : Int32} : (vp_cell (G.2.1 k) (n, .inl f)).setSlot j (.int x) = vp_cell (G.2.1 k) (n, .inl (va_up f j x)) := by
  rw [vp_cell_i, vp_cell_i, arrV_store]
  congr 2
  funext q
  by_cases hq : q = j
  · subst hq
    simp [updV, va_up]
  · simp [updV, va_up, hq]
theorem xup_cellL {G : xG} {k n j : Nat} {f : Nat → Int64} {x : Int64} : (vp_cell (G.2.1 k) (n, .inr (.inl f))).setSlot j (.long x) = vp_cell (G.2.1 k) (n, .inr (.inl (va_up f j x))) := by
  rw [vp_cell_l, vp_cell_l, arrV_store]
  congr 2
  funext q
  by_cases hq : q = j
  · subst hq
    simp [updV, va_up]
  · simp [updV, va_up, hq]
theorem xup_cellQ {G : xG} {k n j : Nat} {f : Nat → Option Nat} {v : Nat} : (vp_cell (G.2.1 k) (n, .inr (.inr (.inr (.inr f))))).setSlot j (.ref v) = vp_cell (G.2.1 k) (n, .inr (.inr (.inr (.inr (va_up f j (some v)))))) := by
  rw [vp_cell_q, vp_cell_q, arrV_store]
  congr 2
  funext q
  by_cases hq : q = j
  · subst hq
    simp [updV, va_up, va_rf]
  · simp [updV, va_up, hq]
theorem x_iast {n : Nat} {f : Nat → Int32} {i : Int32} {x : Int32} (d : decode κ.2.1 pc = .ok (.iastore, 1)) (hτ : τ a = some (.inl (0, n, .inl f))) (hin : vp_in i n) (kk : xX Γ κ (pc + 1) L rest (xup τ a (.inl (0, n, .inl (va_up f i.toNatClampNeg x)))) rc rs) : xX Γ κ pc L (.int x :: .int i :: .ref a :: rest) τ rc rs := by
  intro ok H locs ls cs ss hW hS h1 h2 h
  obtain ⟨hc, hA⟩ := (hW a _ hτ).1 (by decide)
  refine W.iast ok.1 ok.2.1 hc ((ok.2.2.2.2.2.1.1.2 0 _ rfl).1 n (fun j => .int (f j))) (fun q => by cases q) (by show ¬ (i < 0 ∨ (arrV _ _ _).slots.size ≤ _); rw [arrV_size]; exact hin) rfl rfl d fun H1 e z oq => ?_
  refine kk ok H1 _ ls cs ss (hW.set (xat_arr (by decide) ?_ hA) oq) (hS.put z oq hA) h1 h2 h
  rw [e]
  exact congrArg some xup_cell
theorem x_last {n : Nat} {f : Nat → Int64} {i : Int32} {x : Int64} (d : decode κ.2.1 pc = .ok (.lastore, 1)) (hτ : τ a = some (.inl (1, n, .inr (.inl f)))) (hin : vp_in i n) (kk : xX Γ κ (pc + 1) L rest (xup τ a (.inl (1, n, .inr (.inl (va_up f i.toNatClampNeg x))))) rc rs) : xX Γ κ pc L (.long x :: .int i :: .ref a :: rest) τ rc rs := by
  intro ok H locs ls cs ss hW hS h1 h2 h
  obtain ⟨hc, hA⟩ := (hW a _ hτ).1 (by decide)
  refine W.last ok.1 ok.2.1 hc ((ok.2.2.2.2.2.1.1.2 1 _ rfl).1 n (fun j => .long (f j))) (fun q => by cases q) (by show ¬ (i < 0 ∨ (arrV _ _ _).slots.size ≤ _); rw [arrV_size]; exact hin) rfl rfl d fun H1 e z oq => ?_
  refine kk ok H1 _ ls cs ss (hW.set (xat_arr (by decide) ?_ hA) oq) (hS.put z oq hA) h1 h2 h
  rw [e]
  exact congrArg some xup_cellL
theorem x_zast {n : Nat} {f : Nat → Int32} {i : Int32} {x : Int32} (d : decode κ.2.1 pc = .ok (.bastore, 1)) (hτ : τ a = some (.inl (2, n, .inl f))) (hin : vp_in i n) (kk : xX Γ κ (pc + 1) L rest (xup τ a (.inl (2, n, .inl (va_up f i.toNatClampNeg (vp_nar .boolean x))))) rc rs) : xX Γ κ pc L (.int x :: .int i :: .ref a :: rest) τ rc rs := by
  intro ok H locs ls cs ss hW hS h1 h2 h
  obtain ⟨hc, hA⟩ := (hW a _ hτ).1 (by decide)
  refine W.zast ok.1 ok.2.1 hc ((ok.2.2.2.2.2.1.1.2 2 _ rfl).1 n (fun j => .int (f j))) (fun q => by cases q) (by show ¬ (i < 0 ∨ (arrV _ _ _).slots.size ≤ _); rw [arrV_size]; exact hin) rfl rfl d fun H1 e z oq => ?_
  refine kk ok H1 _ ls cs ss (hW.set (xat_arr (by decide) ?_ hA) oq) (hS.put z oq hA) h1 h2 h
  rw [e]
  exact congrArg some (xup_cell (x := vp_nar .boolean x))
theorem x_bast {n : Nat} {f : Nat → Int32} {i : Int32} {x : Int32} (d : decode κ.2.1 pc = .ok (.bastore, 1)) (hτ : τ a = some (.inl (3, n, .inl f))) (hin : vp_in i n) (kk : xX Γ κ (pc + 1) L rest (xup τ a (.inl (3, n, .inl (va_up f i.toNatClampNeg (vp_nar .byte x))))) rc rs) : xX Γ κ pc L (.int x :: .int i :: .ref a :: rest) τ rc rs := by
  intro ok H locs ls cs ss hW hS h1 h2 h
  obtain ⟨hc, hA⟩ := (hW a _ hτ).1 (by decide)
  refine W.bast ok.1 ok.2.1 hc ((ok.2.2.2.2.2.1.1.2 3 _ rfl).1 n (fun j => .int (f j))) (fun q => by cases q) (by show ¬ (i < 0 ∨ (arrV _ _ _).slots.size ≤ _); rw [arrV_size]; exact hin) rfl rfl d fun H1 e z oq => ?_
  refine kk ok H1 _ ls cs ss (hW.set (xat_arr (by decide) ?_ hA) oq) (hS.put z oq hA) h1 h2 h
  rw [e]
  exact congrArg some (xup_cell (x := vp_nar .byte x))
theorem x_cast {n : Nat} {f : Nat → Int32} {i : Int32} {x : Int32} (d : decode κ.2.1 pc = .ok (.castore, 1)) (hτ : τ a = some (.inl (4, n, .inl f))) (hin : vp_in i n) (kk : xX Γ κ (pc + 1) L rest (xup τ a (.inl (4, n, .inl (va_up f i.toNatClampNeg (vp_nar .char x))))) rc rs) : xX Γ κ pc L (.int x :: .int i :: .ref a :: rest) τ rc rs := by
  intro ok H locs ls cs ss hW hS h1 h2 h
  obtain ⟨hc, hA⟩ := (hW a _ hτ).1 (by decide)
  refine W.cast ok.1 ok.2.1 hc ((ok.2.2.2.2.2.1.1.2 4 _ rfl).1 n (fun j => .int (f j))) (fun q => by cases q) (by show ¬ (i < 0 ∨ (arrV _ _ _).slots.size ≤ _); rw [arrV_size]; exact hin) rfl rfl d fun H1 e z oq => ?_
  refine kk ok H1 _ ls cs ss (hW.set (xat_arr (by decide) ?_ hA) oq) (hS.put z oq hA) h1 h2 h
  rw [e]
  exact congrArg some (xup_cell (x := vp_nar .char x))
/-- into a row of Bills -/
theorem x_aast5 {n v : Nat} {vs : List Value} {f : Nat → Option Nat} {i : Int32} (d : decode κ.2.1 pc = .ok (.aastore, 1)) (hτ : τ a = some (.inl (5, n, .inr (.inr (.inr (.inr f)))))) (hv : τ v = some (.inr (0, vs))) (hin : vp_in i n) (kk : xX Γ κ (pc + 1) L rest (xup τ a (.inl (5, n, .inr (.inr (.inr (.inr (va_up f i.toNatClampNeg (some v)))))))) rc rs) : xX Γ κ pc L (.ref v :: .int i :: .ref a :: rest) τ rc rs := by
  intro ok H locs ls cs ss hW hS h1 h2 h
  obtain ⟨hc, hA⟩ := (hW a _ hτ).1 (by decide)
  have hK := ok.2.2.2.2.2.1.1
  have hlt : i.toNatClampNeg < n := Nat.not_le.mp fun q => hin (Or.inr q)
  have h0 : ¬ i < 0 := fun q => hin (Or.inl q)
  obtain ⟨r', hr', cellV, g1, g2, g3, -⟩ := ((hW v _ hv).1 (by decide)).1
  have hcls := (hK.1 0 (RX0, TX0, 4) rfl).2
  obtain ⟨kA, comp, k1, k2, k3, -⟩ := (hK.2 5 _ rfl).2
  have hcomp : comp = (gG Γ).1.1 0 := Option.some.inj (k3.symm.trans hcls.1)
  subst hcomp
  obtain ⟨kC, hkC, -⟩ := hcls.2
  refine W.aast ok.1 ok.2.1 hc (fun q h => by cases h) (fun h => by cases h) k1 k2 rfl hkC ⟨h0, by show _ < (arrV _ _ _).slots.size; rw [arrV_size]; exact hlt⟩ g1 (fun q h => by rw [g3] at h; cases h) (by rw [g2]; exact hkC) (by rw [g2]; exact va_assign hcls) rfl rfl d fun H1 e z oq => ?_
  refine kk ok H1 _ ls cs ss (hW.set (xat_arr (by decide) ?_ hA) oq) (hS.put z oq hA) h1 h2 h
  rw [e]
  exact congrArg some xup_cellQ
/-- an object whose class may lie in a row of Objects -/
def xObj (ci : Nat) : Prop := ∃ q, xCl[ci]? = some q ∧ (q.1, "java/lang/Object") ∈ xCast
theorem x_aast6 {n v ci : Nat} {vs : List Value} {f : Nat → Option Nat} {i : Int32} (d : decode κ.2.1 pc = .ok (.aastore, 1)) (hτ : τ a = some (.inl (6, n, .inr (.inr (.inr (.inr f)))))) (hv : τ v = some (.inr (ci, vs))) (ho : xObj ci) (hin : vp_in i n) (kk : xX Γ κ (pc + 1) L rest (xup τ a (.inl (6, n, .inr (.inr (.inr (.inr (va_up f i.toNatClampNeg (some v)))))))) rc rs) : xX Γ κ pc L (.ref v :: .int i :: .ref a :: rest) τ rc rs := by
  intro ok H locs ls cs ss hW hS h1 h2 h
  obtain ⟨hc, hA⟩ := (hW a _ hτ).1 (by decide)
  have hK := ok.2.2.2.2.2.1.1
  have hlt : i.toNatClampNeg < n := Nat.not_le.mp fun q => hin (Or.inr q)
  have h0 : ¬ i < 0 := fun q => hin (Or.inl q)
  obtain ⟨r, hr, hcast⟩ := ho
  have hci := xCl_lt hr
  obtain ⟨cellV, g1, g3, g4⟩ := va_recv hK (xP1 ((hW v _ hv).1 (by omega)).1) hr (q0 := 0) rfl
  obtain ⟨kC, hkC, -⟩ := Vm.findClass_spec g4
  obtain ⟨kA, comp, k1, k2, k3, -⟩ := (hK.2 6 _ rfl).2
  obtain ⟨kE, hkE, -⟩ := Vm.findClass_spec k3
  obtain ⟨c0, t0, f1, f2, f3⟩ := Cond.castable_spec (va_Nw.use (A := ga Γ) rfl (ok.2.2.2.2.2.1.2.2.1 _ hcast))
  cases g4.symm.trans f1
  cases k3.symm.trans f2
  refine W.aast ok.1 ok.2.1 hc (fun q h => by cases h) (fun h => by cases h) k1 k2 rfl hkE ⟨h0, by show _ < (arrV _ _ _).slots.size; rw [arrV_size]; exact hlt⟩ g1 (fun q h => by rw [h] at g3; cases g3) hkC f3 rfl rfl d fun H1 e z oq => ?_
  refine kk ok H1 _ ls cs ss (hW.set (xat_arr (by decide) ?_ hA) oq) (hS.put z oq hA) h1 h2 h
  rw [e]
  exact congrArg some xup_cellQ
theorem x_alen {k : Nat} {x : vp_A} (d : decode κ.2.1 pc = .ok (.arraylength, 1)) (hτ : τ a = some (.inl (k, x))) (kk : xX Γ κ (pc + 1) L (.int (Int32.ofNat x.1) :: rest) τ rc rs) : xX Γ κ pc L (.ref a :: rest) τ rc rs := by
  intro ok H locs ls cs ss hW hS h1 h2 h
  obtain ⟨e1, e2, e3⟩ := hW a _ hτ
  have hK := ok.2.2.2.2.2.1.1
  rcases Nat.lt_trichotomy k 7 with q | q | q
  · obtain ⟨ty, ht⟩ : ∃ ty, (xTys (gG Γ))[k]? = some ((gG Γ).2.1 k, ty) := by
      match k, q with
      | 0, _ => exact ⟨_, rfl⟩
      | 1, _ => exact ⟨_, rfl⟩
      | 2, _ => exact ⟨_, rfl⟩
      | 3, _ => exact ⟨_, rfl⟩
      | 4, _ => exact ⟨_, rfl⟩
      | 5, _ => exact ⟨_, rfl⟩
      | 6, _ => exact ⟨_, rfl⟩
      | k + 7, q => exact absurd q (by omega)
    exact va_alen ok.1 ok.2.1 hK (xP1 (q := (a, .inl ((gG Γ).2.1 k, x))) (e1 q).1) 0 k rfl ht rfl d (kk ok H locs ls cs ss hW hS h1 h2 h)
  · obtain ⟨f, -, cell, q1, q2, q3, q4, q5, -⟩ := e2 q
    exact W.alen (n := Int32.ofNat x.1) ok.1 ok.2.1 q1 q2 q5 rfl rfl d (kk ok H locs ls cs ss hW hS h1 h2 h)
  · obtain ⟨z, cell, q1, q2, q3, q4, q5, -⟩ := e3 q
    refine W.alen (n := Int32.ofNat x.1) ok.1 ok.2.1 q1 q2 (by rw [z]; exact q5) rfl rfl d (kk ok H locs ls cs ss hW hS h1 h2 h)
theorem x_ccast {ci idx : Nat} {fs : List Value} {q : vw_C} (d : decode κ.2.1 pc = .ok (.checkcast idx, 3)) (hc : xCl[ci]? = some q) (w : Cond.classLink κ.1 idx q.1 ∈ xBW) (hτ : τ a = some (.inr (ci, fs))) (kk : xX Γ κ (pc + 3) L (.ref a :: rest) τ rc rs) : xX Γ κ pc L (.ref a :: rest) τ rc rs := by
  intro ok H locs ls cs ss hW hS h1 h2 h
  have hci := xCl_lt hc
  exact va_castS ok.1 ok.2.1 ok.2.2.2.1 (ok.2.2.2.2.1 _ w) (ok.2.2.2.2.2.1.1.1 ci q hc).2 (va_recv ok.2.2.2.2.2.1.1 (xP1 ((hW a _ hτ).1 (by omega)).1) hc (q0 := 0) rfl) d (kk ok H locs ls cs ss hW hS h1 h2 h)
theorem x_gets {C n dd ref : String} {v : Value} {idx : Nat} (d : decode κ.2.1 pc = .ok (.getstatic idx, 3)) (hq : (C, n, dd, v) ∈ xSta (gG Γ)) (w : Cond.fieldLink κ.1 idx C n dd ∈ xBW) (kk : xX Γ κ (pc + 3) L (v :: rest) τ rc rs) : xX Γ κ pc L rest τ rc rs := by
  intro ok H locs ls cs ss hW hS h1 h2 h
  exact va_gets ok.1 ok.2.1 (ok.2.2.2.2.2.1.2.2.2.2.2.1 _ hq) hS ok.2.2.2.1 (ok.2.2.2.2.1 _ w) (fun _ hx => hx) d (kk ok H locs ls cs ss hW hS h1 h2 h)
theorem x_getsq {C n dd : String} {idx : Nat} (d : decode κ.2.1 pc = .ok (.getstatic idx, 3)) (hq : (C, n, dd) ∈ xStq) (w : Cond.fieldLink κ.1 idx C n dd ∈ xBW) (kk : ∀ o : Option Nat, xX Γ κ (pc + 3) L (va_rf o :: rest) τ rc rs) : xX Γ κ pc L rest τ rc rs := by
  intro ok H locs ls cs ss hW hS h1 h2 h
  rcases (ok.2.2.2.2.2.1.2.2.2.2.2.2.1 _ hq).1 with q | ⟨t, q⟩
  · exact va_gets ok.1 ok.2.1 q hS ok.2.2.2.1 (ok.2.2.2.2.1 _ w) (fun _ hx => hx) d (kk none ok H locs ls cs ss hW hS h1 h2 h)
  · exact va_gets ok.1 ok.2.1 q hS ok.2.2.2.1 (ok.2.2.2.2.1 _ w) (fun _ hx => hx) d (kk (some t) ok H locs ls cs ss hW hS h1 h2 h)
theorem x_new {ci idx : Nat} {fs : List Value} (d : decode κ.2.1 pc = .ok (.new idx, 3)) (w : xNL κ.1 idx ci fs) (hrc : 1 ≤ rc) (hrs : fs.length ≤ rs) (kk : ∀ q : Nat, τ q = none → xX Γ κ (pc + 3) L (.ref q :: rest) (xup τ q (.inr (ci, fs))) (rc - 1) (rs - fs.length)) : xX Γ κ pc L rest τ rc rs := by
  intro ok H locs ls cs ss hW hS h1 h2 h
  obtain ⟨C, T, N, ty0, hc, hin, w1, w2, w3, hty, hfs, hN⟩ := w
  have hci := xCl_lt hc
  have hts := ok.2.2.2.2.1
  have hKn := ok.2.2.2.2.2.1.1.1 ci _ hc
  refine W.newcK ok.1 ok.2.1 ok.2.2.2.1 (hts _ w1) (hts _ w2) (hts _ w3) rfl d (by omega) (by omega) hKn.2.1 rfl fun H1 kC hkC e1 z1 o1 => ?_
  refine kk H.size hW.fresh ok H1 locs ls (cs + 1) (ss + N) (hW.push (xat_obj hci ⟨_, hc, (u_born ty0 hts hin hKn hkC e1 hty).to hfs⟩ ?_) o1) ⟨Nat.le_trans hS.1 (by omega), fun x q1 q2 => (o1 x (Nat.lt_of_lt_of_le q1 hS.1)).trans (hS.2.1 x q1 q2), hS.2.2⟩ (by omega) (by omega) h
  exact Nat.le_trans ok.2.2.2.2.2.1.2.2.2.2.2.2.2.2.2.2.2 hS.1
theorem x_newa0 {n : Int32} (d : decode κ.2.1 pc = .ok (.newarray .int, 2)) (w : Cond.arrayClass .int ∈ xBW) (hn : ¬ n < 0) (hb : n.toNatClampNeg * 8 ≤ 536870912) (hrc : 1 ≤ rc) (hrs : n.toNatClampNeg ≤ rs) (kk : ∀ q : Nat, τ q = none → xX Γ κ (pc + 2) L (.ref q :: rest) (xup τ q (.inl (0, n.toNatClampNeg, .inl (fun _ => 0)))) (rc - 1) (rs - n.toNatClampNeg)) : xX Γ κ pc L (.int n :: rest) τ rc rs := by
  intro ok H locs ls cs ss hW hS h1 h2 h
  refine va_newaK (atype := .int) ok.1 ok.2.1 (ok.2.2.2.2.1 _ w) rfl d rfl hn rfl (by show _ * 4 ≤ _; omega) (by omega) (by omega) rfl fun H1 cA e1 z1 o1 hAr hNm => ?_
  have hcA : cA = (gG Γ).2.1 0 := Option.some.inj (hNm.symm.trans (ok.2.2.2.2.2.1.1.2 0 _ rfl).2)
  subst hcA
  refine kk H.size hW.fresh ok H1 locs ls (cs + 1) (ss + n.toNatClampNeg) (hW.push (xat_arr (by decide) e1 ?_) o1) ⟨Nat.le_trans hS.1 (by omega), fun x q1 q2 => (o1 x (Nat.lt_of_lt_of_le q1 hS.1)).trans (hS.2.1 x q1 q2), hS.2.2⟩ (by omega) (by omega) h
  exact Nat.le_trans ok.2.2.2.2.2.1.2.2.2.2.2.2.2.2.2.2.2 hS.1
theorem x_newa1 {n : Int32} (d : decode κ.2.1 pc = .ok (.newarray .long, 2)) (w : Cond.arrayClass .long ∈ xBW) (hn : ¬ n < 0) (hb : n.toNatClampNeg * 8 ≤ 536870912) (hrc : 1 ≤ rc) (hrs : n.toNatClampNeg ≤ rs) (kk : ∀ q : Nat, τ q = none → xX Γ κ (pc + 2) L (.ref q :: rest) (xup τ q (.inl (1, n.toNatClampNeg, .inr (.inl (fun _ => 0))))) (rc - 1) (rs - n.toNatClampNeg)) : xX Γ κ pc L (.int n :: rest) τ rc rs := by
  intro ok H locs ls cs ss hW hS h1 h2 h
  refine va_newaK (atype := .long) ok.1 ok.2.1 (ok.2.2.2.2.1 _ w) rfl d rfl hn rfl (by show _ * 8 ≤ _; omega) (by omega) (by omega) rfl fun H1 cA e1 z1 o1 hAr hNm => ?_
  have hcA : cA = (gG Γ).2.1 1 := Option.some.inj (hNm.symm.trans (ok.2.2.2.2.2.1.1.2 1 _ rfl).2)
  subst hcA
  refine kk H.size hW.fresh ok H1 locs ls (cs + 1) (ss + n.toNatClampNeg) (hW.push (xat_arr (by decide) e1 ?_) o1) ⟨Nat.le_trans hS.1 (by omega), fun x q1 q2 => (o1 x (Nat.lt_of_lt_of_le q1 hS.1)).trans (hS.2.1 x q1 q2), hS.2.2⟩ (by omega) (by omega) h
  exact Nat.le_trans ok.2.2.2.2.2.1.2.2.2.2.2.2.2.2.2.2.2 hS.1
theorem x_newa2 {n : Int32} (d : decode κ.2.1 pc = .ok (.newarray .boolean, 2)) (w : Cond.arrayClass .boolean ∈ xBW) (hn : ¬ n < 0) (hb : n.toNatClampNeg * 8 ≤ 536870912) (hrc : 1 ≤ rc) (hrs : n.toNatClampNeg ≤ rs) (kk : ∀ q : Nat, τ q = none → xX Γ κ (pc + 2) L (.ref q :: rest) (xup τ q (.inl (2, n.toNatClampNeg, .inl (fun _ => 0)))) (rc - 1) (rs - n.toNatClampNeg)) : xX Γ κ pc L (.int n :: rest) τ rc rs := by
  intro ok H locs ls cs ss hW hS h1 h2 h
  refine va_newaK (atype := .boolean) ok.1 ok.2.1 (ok.2.2.2.2.1 _ w) rfl d rfl hn rfl (by show _ * 1 ≤ _; omega) (by omega) (by omega) rfl fun H1 cA e1 z1 o1 hAr hNm => ?_
  have hcA : cA = (gG Γ).2.1 2 := Option.some.inj (hNm.symm.trans (ok.2.2.2.2.2.1.1.2 2 _ rfl).2)
  subst hcA
  refine kk H.size hW.fresh ok H1 locs ls (cs + 1) (ss + n.toNatClampNeg) (hW.push (xat_arr (by decide) e1 ?_) o1) ⟨Nat.le_trans hS.1 (by omega), fun x q1 q2 => (o1 x (Nat.lt_of_lt_of_le q1 hS.1)).trans (hS.2.1 x q1 q2), hS.2.2⟩ (by omega) (by omega) h
  exact Nat.le_trans ok.2.2.2.2.2.1.2.2.2.2.2.2.2.2.2.2.2 hS.1
theorem x_newa3 {n : Int32} (d : decode κ.2.1 pc = .ok (.newarray .byte, 2)) (w : Cond.arrayClass .byte ∈ xBW) (hn : ¬ n < 0) (hb : n.toNatClampNeg * 8 ≤ 536870912) (hrc : 1 ≤ rc) (hrs : n.toNatClampNeg ≤ rs) (kk : ∀ q : Nat, τ q = none → xX Γ κ (pc + 2) L (.ref q :: rest) (xup τ q (.inl (3, n.toNatClampNeg, .inl (fun _ => 0)))) (rc - 1) (rs - n.toNatClampNeg)) : xX Γ κ pc L (.int n :: rest) τ rc rs := by
  intro ok H locs ls cs ss hW hS h1 h2 h
  refine va_newaK (atype := .byte) ok.1 ok.2.1 (ok.2.2.2.2.1 _ w) rfl d rfl hn rfl (by show _ * 1 ≤ _; omega) (by omega) (by omega) rfl fun H1 cA e1 z1 o1 hAr hNm => ?_
  have hcA : cA = (gG Γ).2.1 3 := Option.some.inj (hNm.symm.trans (ok.2.2.2.2.2.1.1.2 3 _ rfl).2)
  subst hcA
  refine kk H.size hW.fresh ok H1 locs ls (cs + 1) (ss + n.toNatClampNeg) (hW.push (xat_arr (by decide) e1 ?_) o1) ⟨Nat.le_trans hS.1 (by omega), fun x q1 q2 => (o1 x (Nat.lt_of_lt_of_le q1 hS.1)).trans (hS.2.1 x q1 q2), hS.2.2⟩ (by omega) (by omega) h
  exact Nat.le_trans ok.2.2.2.2.2.1.2.2.2.2.2.2.2.2.2.2.2 hS.1
theorem x_newa4 {n : Int32} (d : decode κ.2.1 pc = .ok (.newarray .char, 2)) (w : Cond.arrayClass .char ∈ xBW) (hn : ¬ n < 0) (hb : n.toNatClampNeg * 8 ≤ 536870912) (hrc : 1 ≤ rc) (hrs : n.toNatClampNeg ≤ rs) (kk : ∀ q : Nat, τ q = none → xX Γ κ (pc + 2) L (.ref q :: rest) (xup τ q (.inl (4, n.toNatClampNeg, .inl (fun _ => 0)))) (rc - 1) (rs - n.toNatClampNeg)) : xX Γ κ pc L (.int n :: rest) τ rc rs := by
  intro ok H locs ls cs ss hW hS h1 h2 h
  refine va_newaK (atype := .char) ok.1 ok.2.1 (ok.2.2.2.2.1 _ w) rfl d rfl hn rfl (by show _ * 2 ≤ _; omega) (by omega) (by omega) rfl fun H1 cA e1 z1 o1 hAr hNm => ?_
  have hcA : cA = (gG Γ).2.1 4 := Option.some.inj (hNm.symm.trans (ok.2.2.2.2.2.1.1.2 4 _ rfl).2)
  subst hcA
  refine kk H.size hW.fresh ok H1 locs ls (cs + 1) (ss + n.toNatClampNeg) (hW.push (xat_arr (by decide) e1 ?_) o1) ⟨Nat.le_trans hS.1 (by omega), fun x q1 q2 => (o1 x (Nat.lt_of_lt_of_le q1 hS.1)).trans (hS.2.1 x q1 q2), hS.2.2⟩ (by omega) (by omega) h
  exact Nat.le_trans ok.2.2.2.2.2.1.2.2.2.2.2.2.2.2.2.2.2 hS.1
theorem x_anew5 {n : Int32} {idx : Nat} (d : decode κ.2.1 pc = .ok (.anewarray idx, 3)) (w : Cond.classLink κ.1 idx "RentStream$Bill" ∈ xBW) (hn : ¬ n < 0) (hb : n.toNatClampNeg * 8 ≤ 536870912) (hrc : 1 ≤ rc) (hrs : n.toNatClampNeg ≤ rs) (kk : ∀ q : Nat, τ q = none → xX Γ κ (pc + 3) L (.ref q :: rest) (xup τ q (.inl (5, n.toNatClampNeg, .inr (.inr (.inr (.inr (fun _ => none))))))) (rc - 1) (rs - n.toNatClampNeg)) : xX Γ κ pc L (.int n :: rest) τ rc rs := by
  intro ok H locs ls cs ss hW hS h1 h2 h
  refine W.anew ok.1 ok.2.1 ok.2.2.2.1 (ok.2.2.2.2.1 _ w) (va_AO.use ok.2.2.2.2.2.1.2.2.2.2.2.2.2.1) rfl d rfl hn (by omega) (by omega) (by omega) fun cA kA comp f1 f2 f3 f4 => ?_
  generalize hH1 : H.push ({ cls := cA, slots := Array.replicate n.toNatClampNeg .null, vm := .none } : Cell) = H1
  have z1 : H1.size = H.size + 1 := by rw [← hH1, Array.size_push]
  have e1 : H1[H.size]? = some (arrV cA n.toNatClampNeg (fun _ => .null)) := by rw [← hH1, Array.getElem?_push_size, ← arrV_new]
  have o1 : ∀ q : Nat, q < H.size → H1[q]? = H[q]? := fun q hq => by rw [← hH1, Array.getElem?_push, if_neg (Nat.ne_of_lt hq)]
  obtain ⟨kA', comp', g1, g2, g3, g4⟩ := (ok.2.2.2.2.2.1.1.2 5 _ rfl).2
  have hcA : cA = (gG Γ).2.1 5 := Option.some.inj (f1.symm.trans g4)
  subst hcA
  refine kk H.size hW.fresh ok H1 locs ls (cs + 1) (ss + n.toNatClampNeg) (hW.push (xat_arr (by decide) e1 ?_) o1) ⟨Nat.le_trans hS.1 (by omega), fun x q1 q2 => (o1 x (Nat.lt_of_lt_of_le q1 hS.1)).trans (hS.2.1 x q1 q2), hS.2.2⟩ (by omega) (by omega) h
  exact Nat.le_trans ok.2.2.2.2.2.1.2.2.2.2.2.2.2.2.2.2.2 hS.1
theorem x_anew6 {n : Int32} {idx : Nat} (d : decode κ.2.1 pc = .ok (.anewarray idx, 3)) (w : Cond.classLink κ.1 idx "java/lang/Object" ∈ xBW) (hn : ¬ n < 0) (hb : n.toNatClampNeg * 8 ≤ 536870912) (hrc : 1 ≤ rc) (hrs : n.toNatClampNeg ≤ rs) (kk : ∀ q : Nat, τ q = none → xX Γ κ (pc + 3) L (.ref q :: rest) (xup τ q (.inl (6, n.toNatClampNeg, .inr (.inr (.inr (.inr (fun _ => none))))))) (rc - 1) (rs - n.toNatClampNeg)) : xX Γ κ pc L (.int n :: rest) τ rc rs := by
  intro ok H locs ls cs ss hW hS h1 h2 h
  refine W.anew ok.1 ok.2.1 ok.2.2.2.1 (ok.2.2.2.2.1 _ w) (va_AO.use ok.2.2.2.2.2.1.2.2.2.2.2.2.2.2.1) rfl d rfl hn (by omega) (by omega) (by omega) fun cA kA comp f1 f2 f3 f4 => ?_
  generalize hH1 : H.push ({ cls := cA, slots := Array.replicate n.toNatClampNeg .null, vm := .none } : Cell) = H1
  have z1 : H1.size = H.size + 1 := by rw [← hH1, Array.size_push]
  have e1 : H1[H.size]? = some (arrV cA n.toNatClampNeg (fun _ => .null)) := by rw [← hH1, Array.getElem?_push_size, ← arrV_new]
  have o1 : ∀ q : Nat, q < H.size → H1[q]? = H[q]? := fun q hq => by rw [← hH1, Array.getElem?_push, if_neg (Nat.ne_of_lt hq)]
  obtain ⟨kA', comp', g1, g2, g3, g4⟩ := (ok.2.2.2.2.2.1.1.2 6 _ rfl).2
  have hcA : cA = (gG Γ).2.1 6 := Option.some.inj (f1.symm.trans g4)
  subst hcA
  refine kk H.size hW.fresh ok H1 locs ls (cs + 1) (ss + n.toNatClampNeg) (hW.push (xat_arr (by decide) e1 ?_) o1) ⟨Nat.le_trans hS.1 (by omega), fun x q1 q2 => (o1 x (Nat.lt_of_lt_of_le q1 hS.1)).trans (hS.2.1 x q1 q2), hS.2.2⟩ (by omega) (by omega) h
  exact Nat.le_trans ok.2.2.2.2.2.1.2.2.2.2.2.2.2.2.2.2.2 hS.1
end XHEAP
end
section
/-! ===== contracts over the picture, entries, ends, calls, throws ===== -/
theorem xAmb.to {G : xG} {u U : State} (hW : u.WarmedH U.vm) (hz : u.heap.size ≤ U.heap.size) (hh : ∀ q : Nat, q < u.heap.size → ¬ xA G q → U.heap[q]? = u.heap[q]?) (h : xAmb G u) : xAmb G U := by
  obtain ⟨a1, a2, a3, a4, a5, a6, a7, a8, a9, a10, a11, a12⟩ := h
  have hvm := hW.alike
  refine ⟨va_K.moved hvm a1, fun q hq => va_Nw.warmM hW (a2 q hq), fun q hq => va_Nw.warmC hW (a3 q hq), fun q hq => va_Nw.warmD hW (a4 q hq), fun q hq => ?_, fun q hq => va_Z.moved hvm ((a6 q hq).kept hh), fun q hq => vx_Zq.moved hvm ((a7 q hq).kept hh), va_AO.moved hvm a8, va_AO.moved hvm a9, vk_R.warm hW a10, va_Mi.moved hvm a11, Nat.le_trans a12 hz⟩
  obtain ⟨a, ha⟩ := a5 q hq
  exact ⟨a, vk_R.warm hW ha⟩
theorem xAmb.same {G : xG} {u U : State} (hv : U.vm = u.vm) (hh : U.heap = u.heap) (h : xAmb G u) : xAmb G U := xAmb.to (by rw [hv]; exact State.WarmedH.refl u) (by rw [hh]; exact Nat.le_refl _) (fun q _ _ => by rw [hh]) h
/-- at a method's start: what stands around, and the picture -/
def xPre (G : xG) (τ : xT) (U : State) : Prop := xAmb G U ∧ xW G U τ U.heap
def xws (y : MethodName) (κ : xκ) (ret : Option FieldType) : List Cond := Cond.code y κ.2.1 κ.2.2.1 ret :: xBW
def xRm (κ : xκ) (mc ms : Nat) : Room := { frames := κ.2.2.2.1, cells := mc, slots := ms, locals := κ.2.2.2.2 }
/-- at its end: what it answers, the picture then -/
def xQc (G : xG) (Kr : Option Value → xT → Prop) : Array Value → State → Outcome → State → Prop := fun _ st o t => (∃ (v : Option Value) (τ : xT), o = .returned v ∧ Kr v τ ∧ xW G t τ t.heap) ∧ va_F (xA G) st t
def xXC (G : xG) (Kx : String → xT → Prop) : String → State → State → Prop := fun E st t => ∃ τ : xT, Kx E τ ∧ xW G t τ t.heap ∧ va_F (xA G) st t
/-- a method's contract: with the arguments as over the picture τ it returns, with Kr -/
def xMet (l : Launch) (G : xG) (y : MethodName) (κ : xκ) (ret : Option FieldType) (as : List Value) (τ : xT) (Kr : Option Value → xT → Prop) (mc ms : Nat) : Prop := Met l y (xws y κ ret) (xRm κ mc ms) (va_Pc as (xPre G τ)) (xQc G Kr) mc ms (xA G)
/-- .. or throws, with Kx -/
def xMetX (l : Launch) (G : xG) (y : MethodName) (κ : xκ) (ret : Option FieldType) (as : List Value) (τ : xT) (Kr : Option Value → xT → Prop) (Kx : String → xT → Prop) (mc ms : Nat) : Prop := vx_Met l y (xws y κ ret) (xRm κ mc ms) (va_Pc as (xPre G τ)) (xQc G Kr) (xXC G Kx) mc ms (xA G)
def xRet (Γ : xΓ) (Kr : Option Value → xT → Prop) : Prop := gQ Γ = MQ (gb Γ) (xQc (gG Γ) Kr) (ga Γ) (gs Γ) (gR Γ).cells (gR Γ).slots (xA (gG Γ)) ∨ ∃ Kx, gQ Γ = vx_MQ (gb Γ) (xQc (gG Γ) Kr) (xXC (gG Γ) Kx) (ga Γ) (gs Γ) (gR Γ).cells (gR Γ).slots (xA (gG Γ))
def xThr (Γ : xΓ) (Kx : String → xT → Prop) : Prop := (∃ Kr, gQ Γ = vx_MQ (gb Γ) (xQc (gG Γ) Kr) (xXC (gG Γ) Kx) (ga Γ) (gs Γ) (gR Γ).cells (gR Γ).slots (xA (gG Γ))) ∧ ∀ x ∈ (gc Γ).exceptionTable.toList, False
theorem xgood {cw : Cond} (pre : List Cond) (h : ∀ w ∈ pre, w ∈ xBW) (hc : cw ∈ xBW) : GoodIn xBW (pre ++ (cw :: xBW)) := by
  intro w hw
  have hm : w ∈ xBW := by
    rcases List.mem_append.mp hw with q | q
    · exact h w q
    · rcases List.mem_cons.mp q with q | q
      · rw [q]; exact hc
      · exact q
  exact ⟨hm, xBW_good w hm⟩
theorem xPre.blind {G : xG} {τ : xT} {as : List Value} : FrameBlind (va_Pc as (xPre G τ)) := by
  intro a U g mk ⟨q1, q2, q3⟩
  exact ⟨q1, xAmb.same (U := U.calling g mk a) rfl rfl q2, xW.moved (Vm.Alike.refl U.vm) q3⟩
section XCALL
variable {Γ : xΓ} {κ κy : xκ} {pc : Nat} {L : List (Nat × Value)} {st rest : List Value} {τ : xT} {rc rs mc ms : Nat} {a : Nat} {y : MethodName} {ret : Option FieldType} {as : List Value} {Kr : Option Value → xT → Prop} {Kx : String → xT → Prop}
theorem xPre.at {Γ : xΓ} {κ : xκ} {τ : xT} {as : List Value} {H : Heap} {locs : List Loc} (ok : xOK Γ κ) (hW : xW (gG Γ) (gs Γ) τ H) (hS : va_S (xA (gG Γ)) (gs Γ).heap H locs) : ∀ U : State, U.heap = H → (gs Γ).WarmedH U.vm → va_Pc as (xPre (gG Γ) τ) as.toArray U := by
  intro U hU hWm
  refine ⟨rfl, xAmb.to hWm (by rw [hU]; exact hS.1) (fun q h1 h2 => by rw [hU]; exact hS.2.1 q h1 h2) ok.2.2.2.2.2.1, ?_⟩
  rw [hU]
  exact hW.moved hWm.alike
/-- the entry: a method of xMet out of its walk -/
theorem xMet.of {l : Launch} {G : xG} (hy : plainName y.cls = true) (hown : y.cls = κ.1) (hl : l.stackTraces = false) (hlen : (lg_sl as).length ≤ κ.2.2.1)
    (body : ∀ Γ : xΓ, gl Γ = l → gG Γ = G → (gM Γ).sig.returnType = ret → (gM Γ).name = y.name → xRet Γ Kr → xX Γ κ 0 (lv_args 0 as) [] τ mc ms) : xMet l G y κ ret as τ Kr mc ms := by
  refine Met.ofW (cc := κ.2.1) (maxL := κ.2.2.1) (ret := ret) hy rfl ?_
  intro p e s m args below meth c s₁ B hml hv
  obtain ⟨rfl, hA, hW⟩ := hv
  have hts := atoms_spec (ws := xws y κ ret) B.pre
  have hl0 := lv_entry as hlen
  rw [lg_entry_eq]
  generalize (lg_sl as ++ List.replicate (κ.2.2.1 - (lg_sl as).length) Slot.unset).toArray = ls at hl0 ⊢
  refine body (p, l, e, (headSpec (xws y κ ret) (xRm κ mc ms)).room, s, m, as.toArray, below, meth, c, MQ below (xQc G Kr) as.toArray s mc ms (xA G), G) rfl rfl B.returns (name_of_methodNamed B.named B.method).1 (Or.inl rfl) ⟨B.exec, B.bytes, hml, by rw [← hown]; exact findClass_of_methodNamed B.named, fun w hw => hts w (List.mem_cons_of_mem _ hw), hA, Nat.le_refl _, Nat.le_refl _, B.notSynchronized, hl⟩ s.heap [] ls 0 0 hW va_S.rf (Nat.le_of_eq (Nat.zero_add _)) (Nat.le_of_eq (Nat.zero_add _)) hl0
theorem xMetX.of {l : Launch} {G : xG} (hy : plainName y.cls = true) (hown : y.cls = κ.1) (hl : l.stackTraces = false) (hlen : (lg_sl as).length ≤ κ.2.2.1)
    (body : ∀ Γ : xΓ, gl Γ = l → gG Γ = G → (gM Γ).sig.returnType = ret → (gM Γ).name = y.name → xRet Γ Kr → xThr Γ Kx → xX Γ κ 0 (lv_args 0 as) [] τ mc ms) : xMetX l G y κ ret as τ Kr Kx mc ms := by
  refine vx_ofW (cc := κ.2.1) (maxL := κ.2.2.1) (ret := ret) hy rfl ?_
  intro p e s m args below meth c s₁ B hml ht hv
  obtain ⟨rfl, hA, hW⟩ := hv
  have hts := atoms_spec (ws := xws y κ ret) B.pre
  have hl0 := lv_entry as hlen
  rw [lg_entry_eq]
  generalize (lg_sl as ++ List.replicate (κ.2.2.1 - (lg_sl as).length) Slot.unset).toArray = ls at hl0 ⊢
  refine body (p, l, e, (headSpec (xws y κ ret) (xRm κ mc ms)).room, s, m, as.toArray, below, meth, c, vx_MQ below (xQc G Kr) (xXC G Kx) as.toArray s mc ms (xA G), G) rfl rfl B.returns (name_of_methodNamed B.named B.method).1 (Or.inr ⟨Kx, rfl⟩) ⟨⟨Kr, rfl⟩, ht⟩ ⟨B.exec, B.bytes, hml, by rw [← hown]; exact findClass_of_methodNamed B.named, fun w hw => hts w (List.mem_cons_of_mem _ hw), hA, Nat.le_refl _, Nat.le_refl _, B.notSynchronized, hl⟩ s.heap [] ls 0 0 hW va_S.rf (Nat.le_of_eq (Nat.zero_add _)) (Nat.le_of_eq (Nat.zero_add _)) hl0
/-- a method's end, whichever kind of contract it has -/
theorem xend {v : Option Value} {g : JFrame} (hr : xRet Γ Kr) (hK : Kr v τ) {H : Heap} {locs : List Loc} {cs ss : Nat} (hW : xW (gG Γ) (gs Γ) τ H) (hS : va_S (xA (gG Γ)) (gs Γ).heap H locs) (h1 : cs ≤ (gR Γ).cells) (h2 : ss ≤ (gR Γ).slots)
    (k : (∀ t : State, t.heap = H → (gs Γ).WarmedH t.vm → xQc (gG Γ) Kr (ga Γ) (gs Γ) (.returned v) t) → (∀ q ∈ locs, xA (gG Γ) q.base) → W (gp Γ) (gl Γ) (ge Γ) (gR Γ) (gs Γ) (gm Γ) (ga Γ) (gb Γ) (gM Γ) (gc Γ) H locs (gR Γ).cells (gR Γ).slots (MQ (gb Γ) (xQc (gG Γ) Kr) (ga Γ) (gs Γ) (gR Γ).cells (gR Γ).slots (xA (gG Γ))) g) : W (gp Γ) (gl Γ) (ge Γ) (gR Γ) (gs Γ) (gm Γ) (ga Γ) (gb Γ) (gM Γ) (gc Γ) H locs cs ss (gQ Γ) g := by
  have k2 := k (fun t ht hWt => ⟨⟨v, τ, rfl, hK, by rw [ht]; exact hW.moved hWt.alike⟩, hS.F ht⟩) hS.2.2
  refine W.widen h1 h2 ?_
  rcases hr with hr | ⟨Kx, hr⟩
  · rw [hr]; exact k2
  · rw [hr]; exact vx_ret k2
theorem x_zret {x : Int32} {ty : FieldType} (d : decode κ.2.1 pc = .ok (.ireturn, 1)) (hr : xRet Γ Kr) (ht : (gM Γ).sig.returnType = some ty) (hn : narrow ty (.int x) = .int x) (hK : Kr (some (.int x)) τ) : xX Γ κ pc L [.int x] τ rc rs := fun ok H locs ls cs ss hW hS h1 h2 _ => xend hr hK hW hS (by omega) (by omega) (fun hq hf => W.zret ok.1 ok.2.1 ht hn hq hf d ok.2.2.2.2.2.2.2.2.1)
theorem x_lret {x : Int64} (d : decode κ.2.1 pc = .ok (.lreturn, 1)) (hr : xRet Γ Kr) (ht : (gM Γ).sig.returnType = some .long) (hK : Kr (some (.long x)) τ) : xX Γ κ pc L [.long x] τ rc rs := fun ok H locs ls cs ss hW hS h1 h2 _ => xend hr hK hW hS (by omega) (by omega) (fun hq hf => W.lret ok.1 ok.2.1 ht hq hf d ok.2.2.2.2.2.2.2.2.1)
theorem x_vret (d : decode κ.2.1 pc = .ok (.return_, 1)) (hr : xRet Γ Kr) (ht : (gM Γ).sig.returnType = none) (hK : Kr none τ) : xX Γ κ pc L [] τ rc rs := fun ok H locs ls cs ss hW hS h1 h2 _ => xend hr hK hW hS (by omega) (by omega) (fun hq hf => W.vret ok.1 ok.2.1 ht hq hf d ok.2.2.2.2.2.2.2.2.1)
theorem x_aret {o : Option Nat} {rt : FieldType} (d : decode κ.2.1 pc = .ok (.areturn, 1)) (hr : xRet Γ Kr) (ht : (gM Γ).sig.returnType = some rt) (hrt : (∃ n, rt = .object n) ∨ ∃ t, rt = .array t) (hK : Kr (some (va_rf o)) τ) : xX Γ κ pc L [va_rf o] τ rc rs := fun ok H locs ls cs ss hW hS h1 h2 _ => xend hr hK hW hS (by omega) (by omega) (fun hq hf => W.aret ok.1 ok.2.1 ht hrt (by cases o; exact Or.inl rfl; exact Or.inr ⟨_, rfl⟩) hq hf d ok.2.2.2.2.2.2.2.2.1)
/-- what is kept behind a call -/
theorem xkeep {G : xG} {s st₀ t T' : State} {H : Heap} {locs L : List Loc} (h0 : st₀.heap = H) (e1 : T'.heap = t.heap) (hS : va_S (xA G) s.heap H locs) (hL : ∀ q ∈ L, xA G q.base) (hF : va_F (xA G) st₀ t) : va_S (xA G) s.heap T'.heap (locs ++ L) := by
  obtain ⟨hz, hk⟩ := hF
  rw [h0] at hz hk
  refine ⟨Nat.le_trans hS.1 (by rw [e1]; exact hz), fun q h1 h2 => by rw [e1, hk q (Nat.lt_of_lt_of_le h1 hS.1) h2]; exact hS.2.1 q h1 h2, fun q hq => ?_⟩
  rcases List.mem_append.mp hq with h | h
  · exact hS.2.2 q h
  · exact hL q h
theorem xafter {H : Heap} {locs : List Loc} {ls : Array Slot} {cs ss : Nat} {st0 : List Value} {aa : Array Value} (ok : xOK Γ κ) (hS : va_S (xA (gG Γ)) (gs Γ).heap H locs) (h1 : cs + rc ≤ (gR Γ).cells) (h2 : ss + rs ≤ (gR Γ).slots) (hl : lv_has ls κ.2.2.1 L) (hm1 : mc ≤ rc) (hm2 : ms ≤ rs)
    (hr : va_Run (gp Γ) (gl Γ) (ge Γ) (gR Γ) (gs Γ) (gm Γ) (ga Γ) (gb Γ) (gM Γ) (gc Γ) H locs cs ss mc ms (F0 (gm Γ) pc ls st0) rest (xQc (gG Γ) Kr aa) (xA (gG Γ)))
    (kk : ∀ (v : Option Value) (τ' : xT), Kr v τ' → xX Γ κ (pc + 3) L (v.toList ++ rest) τ' (rc - mc) (rs - ms)) : W (gp Γ) (gl Γ) (ge Γ) (gR Γ) (gs Γ) (gm Γ) (ga Γ) (gb Γ) (gM Γ) (gc Γ) H locs cs ss (gQ Γ) (F0 (gm Γ) pc ls st0) := by
  intro T hT X
  obtain ⟨v, st₀, t, T', L1, h0, X', hL, e1, e2, ⟨⟨v', τ', hv, hK, hW'⟩, hF⟩, st⟩ := hr T hT X
  cases hv
  have hS' := xkeep h0 e1 hS hL hF
  have hvm : t.vm.Alike (gs Γ).vm := by rw [← e2]; exact X'.warmed.alike.symm
  obtain ⟨t2, a1, b1⟩ := kk v τ' hK ok T'.heap (locs ++ L1) ls (cs + mc) (ss + ms) (by rw [e1]; exact hW'.moved hvm) hS' (by omega) (by omega) hl T' rfl X'
  exact ⟨t2, st t2 a1, b1⟩
theorem xafterX {H : Heap} {locs : List Loc} {ls : Array Slot} {cs ss : Nat} {st0 : List Value} {aa : Array Value} (ok : xOK Γ κ) (hS : va_S (xA (gG Γ)) (gs Γ).heap H locs) (h1 : cs + rc ≤ (gR Γ).cells) (h2 : ss + rs ≤ (gR Γ).slots) (hl : lv_has ls κ.2.2.1 L) (hm1 : mc ≤ rc) (hm2 : ms ≤ rs)
    (hr : vx_Run (gp Γ) (gl Γ) (ge Γ) (gR Γ) (gs Γ) (gm Γ) (ga Γ) (gb Γ) (gM Γ) (gc Γ) H locs cs ss mc ms (F0 (gm Γ) pc ls st0) rest (xQc (gG Γ) Kr aa) (xXC (gG Γ) Kx) (xA (gG Γ)))
    (kx : ∀ (E : String) (τ' : xT), Kx E τ' → xXt Γ κ pc L rest E τ' (rc - mc) (rs - ms))
    (kk : ∀ (v : Option Value) (τ' : xT), Kr v τ' → xX Γ κ (pc + 3) L (v.toList ++ rest) τ' (rc - mc) (rs - ms)) : W (gp Γ) (gl Γ) (ge Γ) (gR Γ) (gs Γ) (gm Γ) (ga Γ) (gb Γ) (gM Γ) (gc Γ) H locs cs ss (gQ Γ) (F0 (gm Γ) pc ls st0) := by
  intro T hT X
  rcases hr T hT X with ⟨v, st₀, t, T', L1, h0, X', hL, e1, e2, ⟨⟨v', τ', hv, hK, hW'⟩, hF⟩, st⟩ | ⟨q, st₀, t, T', L1, E, ce, h0, X', hL, e1, e2, ⟨τ', hK, hW', hF⟩, hce, hcv, hcl, st⟩
  · cases hv
    have hS' := xkeep h0 e1 hS hL hF
    have hvm : t.vm.Alike (gs Γ).vm := by rw [← e2]; exact X'.warmed.alike.symm
    obtain ⟨t2, a1, b1⟩ := kk v τ' hK ok T'.heap (locs ++ L1) ls (cs + mc) (ss + ms) (by rw [e1]; exact hW'.moved hvm) hS' (by omega) (by omega) hl T' rfl X'
    exact ⟨t2, st t2 a1, b1⟩
  · have hS' := xkeep h0 e1 hS hL hF
    have hvm : t.vm.Alike (gs Γ).vm := by rw [← e2]; exact X'.warmed.alike.symm
    obtain ⟨t2, a1, b1⟩ := kx E τ' hK ok T'.heap (locs ++ L1) ls (cs + mc) (ss + ms) q ce (by rw [e1]; exact hW'.moved hvm) hS' (by omega) (by omega) hl (by rw [e1]; exact hce) hcv hcl T' rfl X'
    exact ⟨t2, st.trans a1, b1⟩
/-- answers of a kind -/
def xKi (K : Int32 → xT → Prop) : Option Value → xT → Prop := fun v τ => ∃ r, v = some (.int r) ∧ K r τ
def xKl (K : Int64 → xT → Prop) : Option Value → xT → Prop := fun v τ => ∃ r, v = some (.long r) ∧ K r τ
def xKr (K : Option Nat → xT → Prop) : Option Value → xT → Prop := fun v τ => ∃ r, v = some (va_rf r) ∧ K r τ
def xKv (K : xT → Prop) : Option Value → xT → Prop := fun v τ => v = none ∧ K τ
theorem xk_i {K : Int32 → xT → Prop} (h : ∀ r τ', K r τ' → xX Γ κ pc L (.int r :: rest) τ' rc rs) : ∀ v τ', xKi K v τ' → xX Γ κ pc L (v.toList ++ rest) τ' rc rs := by
  rintro v τ' ⟨r, rfl, hK⟩
  exact h r τ' hK
theorem xk_l {K : Int64 → xT → Prop} (h : ∀ r τ', K r τ' → xX Γ κ pc L (.long r :: rest) τ' rc rs) : ∀ v τ', xKl K v τ' → xX Γ κ pc L (v.toList ++ rest) τ' rc rs := by
  rintro v τ' ⟨r, rfl, hK⟩
  exact h r τ' hK
theorem xk_r {K : Option Nat → xT → Prop} (h : ∀ r τ', K r τ' → xX Γ κ pc L (va_rf r :: rest) τ' rc rs) : ∀ v τ', xKr K v τ' → xX Γ κ pc L (v.toList ++ rest) τ' rc rs := by
  rintro v τ' ⟨r, rfl, hK⟩
  exact h r τ' hK
theorem xk_v {K : xT → Prop} (h : ∀ τ', K τ' → xX Γ κ pc L rest τ' rc rs) : ∀ v τ', xKv K v τ' → xX Γ κ pc L (v.toList ++ rest) τ' rc rs := by
  rintro v τ' ⟨rfl, hK⟩
  exact h τ' hK
/-- the words of a call: static; virtual (the receiver's class C); a constructor; the super's method; a nest mate's constructor, its static method -/
def xLn (κ κy : xκ) (y : MethodName) (n : Nat) : Prop := (y.cls ≠ "java/lang/invoke/MethodHandle" ∧ y.cls ≠ "java/lang/invoke/VarHandle" ∧ (parseMethodDescriptor y.desc).map (fun d => d.parameters.length) = some n) ∧ κy.2.2.2.1 + 1 ≤ κ.2.2.2.1 ∧ 8 + (κy.2.2.1 + 11) + κy.2.2.2.2 ≤ κ.2.2.2.2
def xLS (κ κy : xκ) (idx : Nat) (y : MethodName) (ret : Option FieldType) (n : Nat) : Prop := (∀ w ∈ [Cond.methodLink κ.1 idx y, .static y, .initialized y.cls], w ∈ xBW) ∧ Cond.code y κy.2.1 κy.2.2.1 ret ∈ xBW ∧ xLn κ κy y n
def xLV (κ κy : xκ) (idx : Nat) (C : String) (y : MethodName) (ret : Option FieldType) (n : Nat) : Prop := (∀ w ∈ [Cond.methodLink κ.1 idx y, .instanceMethod y, .selects C y y, .initialized y.cls], w ∈ xBW) ∧ Cond.code y κy.2.1 κy.2.2.1 ret ∈ xBW ∧ xLn κ κy y n
def xLI (κ κy : xκ) (idx : Nat) (y : MethodName) (n : Nat) : Prop := (∀ w ∈ [Cond.methodLink κ.1 idx y, .instanceMethod y, .initialized y.cls], w ∈ xBW) ∧ Cond.code y κy.2.1 κy.2.2.1 none ∈ xBW ∧ y.name = "<init>" ∧ xLn κ κy y n
def xLSU (κ κy : xκ) (idx : Nat) (y : MethodName) (ret : Option FieldType) (n : Nat) : Prop := (∀ w ∈ [Cond.methodLink κ.1 idx y, .sameMethod y.cls y.cls y.name y.desc, .superclass κ.1 y.cls, .instanceMethod y, .initialized y.cls], w ∈ xBW) ∧ Cond.code y κy.2.1 κy.2.2.1 ret ∈ xBW ∧ y.name ≠ "<init>" ∧ xLn κ κy y n
def xLIN (κ κy : xκ) (idx : Nat) (y : MethodName) (n : Nat) : Prop := (κ.1, idx, y, "RentStream") ∈ xNest ∧ (∀ w ∈ [Cond.instanceMethod y, .initialized y.cls], w ∈ xBW) ∧ Cond.code y κy.2.1 κy.2.2.1 none ∈ xBW ∧ y.name = "<init>" ∧ xLn κ κy y n
def xLSN (κ κy : xκ) (idx : Nat) (y : MethodName) (ret : Option FieldType) (n : Nat) : Prop := (κ.1, idx, y, "RentStream") ∈ xNest ∧ (∀ w ∈ [Cond.static y, .initialized y.cls], w ∈ xBW) ∧ Cond.code y κy.2.1 κy.2.2.1 ret ∈ xBW ∧ xLn κ κy y n
theorem xfix (ok : xOK Γ κ) : CallFix (gp Γ) (gm Γ) (gc Γ) κ.2.1 κ.2.2.1 (gs Γ) (ga Γ) xBW κ.1 := ⟨ok.1, ok.2.1, ok.2.2.1, ok.2.2.2.1, ok.2.2.2.2.1⟩
theorem xcallB {n idx : Nat} (ok : xOK Γ κ) (hw : Cond.methodLink κ.1 idx y ∈ xBW) (hi : Cond.initialized y.cls ∈ xBW) (hc : Cond.code y κy.2.1 κy.2.2.1 ret ∈ xBW) (hn : xLn κ κy y n) : CallB (gR Γ) (gs Γ) (ga Γ) κ.1 idx y κy.2.1 κy.2.2.1 ret (xws y κy ret) (xRm κy mc ms) mc ms n :=
  callB_of n ok.2.2.2.2.1 (xgood [] (fun _ h => nomatch h) hc) rfl rfl rfl (ok.2.2.2.2.1 _ hi) (ok.2.2.2.2.1 _ hw) hn.1 ⟨Nat.le_trans hn.2.1 ok.2.2.2.2.2.2.1, Nat.le_trans hn.2.2 ok.2.2.2.2.2.2.2.1⟩
theorem x_invS {idx n : Nat} (d : decode κ.2.1 pc = .ok (.invokestatic idx, 3)) (w : xLS κ κy idx y ret n) (hM : xMet (gl Γ) (gG Γ) y κy ret as τ Kr mc ms) (hn : as.length = n) (hst : st = as.reverse ++ rest) (hcat : (rest.map fun v => v.category).sum ≤ 8) (hm1 : mc ≤ rc) (hm2 : ms ≤ rs) (kk : ∀ (v : Option Value) (τ' : xT), Kr v τ' → xX Γ κ (pc + 3) L (v.toList ++ rest) τ' (rc - mc) (rs - ms)) : xX Γ κ pc L st τ rc rs := by
  intro ok H locs ls cs ss hW hS h1 h2 h
  obtain ⟨w1, w2, w3⟩ := w
  exact xafter ok hS h1 h2 h hm1 hm2 (va_runS (xfix ok) hM ⟨xcallB ok (w1 _ (by simp)) (w1 _ (by simp)) w2 w3, ok.2.2.2.2.1 _ (w1 _ (by simp))⟩ ⟨xPre.blind, xPre.at ok hW hS⟩ rfl hn h.1 hst (lv_room hcat) d ⟨by omega, by omega⟩) kk
theorem xrecv {H : Heap} {ci : Nat} {fs : List Value} {q : vw_C} (ok : xOK Γ κ) (hW : xW (gG Γ) (gs Γ) τ H) (hτ : τ a = some (.inr (ci, fs))) (hc : xCl[ci]? = some q) : ∃ cellB : Cell, H[a]? = some cellB ∧ cellB.vm.isStatics = false ∧ (gs Γ).vm.findClass q.1 = some cellB.cls := by
  have hci := xCl_lt hc
  exact va_recv ok.2.2.2.2.2.1.1 (xP1 ((hW a _ hτ).1 (by omega)).1) hc (q0 := 0) rfl
theorem x_invV {idx n ci : Nat} {fs : List Value} {q : vw_C} (d : decode κ.2.1 pc = .ok (.invokevirtual idx, 3)) (hc : xCl[ci]? = some q) (w : xLV κ κy idx q.1 y ret n) (hτ : τ a = some (.inr (ci, fs))) (hM : xMet (gl Γ) (gG Γ) y κy ret (.ref a :: as) τ Kr mc ms) (hn : as.length = n) (hst : st = as.reverse ++ .ref a :: rest) (hcat : (rest.map fun v => v.category).sum ≤ 8) (hm1 : mc ≤ rc) (hm2 : ms ≤ rs) (kk : ∀ (v : Option Value) (τ' : xT), Kr v τ' → xX Γ κ (pc + 3) L (v.toList ++ rest) τ' (rc - mc) (rs - ms)) : xX Γ κ pc L st τ rc rs := by
  intro ok H locs ls cs ss hW hS h1 h2 h
  obtain ⟨w1, w2, w3⟩ := w
  exact xafter ok hS h1 h2 h hm1 hm2 (va_runV (xfix ok) hM ⟨xcallB ok (w1 _ (by simp)) (w1 _ (by simp)) w2 w3, ok.2.2.2.2.1 _ (w1 _ (by simp)), ok.2.2.2.2.1 _ (w1 _ (by simp))⟩ ⟨xPre.blind, xrecv ok hW hτ hc, xPre.at ok hW hS⟩ rfl hn h.1 hst (lv_room hcat) d ⟨by omega, by omega⟩) kk
/-- a String's own method -/
theorem x_invVS {idx n : Nat} {fs : List Value} (d : decode κ.2.1 pc = .ok (.invokevirtual idx, 3)) (w : xLV κ κy idx "java/lang/String" y ret n) (hτ : τ a = some (.inr (11, fs))) (hM : xMet (gl Γ) (gG Γ) y κy ret (.ref a :: as) τ Kr mc ms) (hn : as.length = n) (hst : st = as.reverse ++ .ref a :: rest) (hcat : (rest.map fun v => v.category).sum ≤ 8) (hm1 : mc ≤ rc) (hm2 : ms ≤ rs) (kk : ∀ (v : Option Value) (τ' : xT), Kr v τ' → xX Γ κ (pc + 3) L (v.toList ++ rest) τ' (rc - mc) (rs - ms)) : xX Γ κ pc L st τ rc rs := by
  intro ok H locs ls cs ss hW hS h1 h2 h
  obtain ⟨w1, w2, w3⟩ := w
  obtain ⟨⟨cell, q1, q2, q3, -⟩, -⟩ := (hW a _ hτ).2 rfl
  exact xafter ok hS h1 h2 h hm1 hm2 (va_runV (C := "java/lang/String") (xfix ok) hM ⟨xcallB ok (w1 _ (by simp)) (w1 _ (by simp)) w2 w3, ok.2.2.2.2.1 _ (w1 _ (by simp)), ok.2.2.2.2.1 _ (w1 _ (by simp))⟩ ⟨xPre.blind, ⟨cell, q1, q2, q3⟩, xPre.at ok hW hS⟩ rfl hn h.1 hst (lv_room hcat) d ⟨by omega, by omega⟩) kk
theorem x_invVX {idx n ci : Nat} {fs : List Value} {q : vw_C} (d : decode κ.2.1 pc = .ok (.invokevirtual idx, 3)) (hc : xCl[ci]? = some q) (w : xLV κ κy idx q.1 y ret n) (hτ : τ a = some (.inr (ci, fs))) (hM : xMetX (gl Γ) (gG Γ) y κy ret (.ref a :: as) τ Kr Kx mc ms) (hn : as.length = n) (hst : st = as.reverse ++ .ref a :: rest) (hcat : (rest.map fun v => v.category).sum ≤ 8) (hm1 : mc ≤ rc) (hm2 : ms ≤ rs) (kx : ∀ (E : String) (τ' : xT), Kx E τ' → xXt Γ κ pc L rest E τ' (rc - mc) (rs - ms)) (kk : ∀ (v : Option Value) (τ' : xT), Kr v τ' → xX Γ κ (pc + 3) L (v.toList ++ rest) τ' (rc - mc) (rs - ms)) : xX Γ κ pc L st τ rc rs := by
  intro ok H locs ls cs ss hW hS h1 h2 h
  obtain ⟨w1, w2, w3⟩ := w
  exact xafterX ok hS h1 h2 h hm1 hm2 (vx_runV (xfix ok) hM ⟨xcallB ok (w1 _ (by simp)) (w1 _ (by simp)) w2 w3, ok.2.2.2.2.1 _ (w1 _ (by simp)), ok.2.2.2.2.1 _ (w1 _ (by simp))⟩ ⟨xPre.blind, xrecv ok hW hτ hc, xPre.at ok hW hS⟩ rfl hn h.1 hst (lv_room hcat) d ⟨by omega, by omega⟩) kx kk
theorem x_invI {idx n : Nat} (d : decode κ.2.1 pc = .ok (.invokespecial idx, 3)) (w : xLI κ κy idx y n) (hM : xMet (gl Γ) (gG Γ) y κy none (.ref a :: as) τ Kr mc ms) (hn : as.length = n) (hst : st = as.reverse ++ .ref a :: rest) (hcat : (rest.map fun v => v.category).sum ≤ 8) (hm1 : mc ≤ rc) (hm2 : ms ≤ rs) (kk : ∀ (v : Option Value) (τ' : xT), Kr v τ' → xX Γ κ (pc + 3) L (v.toList ++ rest) τ' (rc - mc) (rs - ms)) : xX Γ κ pc L st τ rc rs := by
  intro ok H locs ls cs ss hW hS h1 h2 h
  obtain ⟨w1, w2, w3, w4⟩ := w
  exact xafter ok hS h1 h2 h hm1 hm2 (va_runI (xfix ok) hM ⟨xcallB ok (w1 _ (by simp)) (w1 _ (by simp)) w2 w4, w3, ok.2.2.2.2.1 _ (w1 _ (by simp))⟩ ⟨xPre.blind, xPre.at ok hW hS⟩ rfl hn h.1 hst (lv_room hcat) d ⟨by omega, by omega⟩) kk
theorem x_invIN {idx n : Nat} (d : decode κ.2.1 pc = .ok (.invokespecial idx, 3)) (w : xLIN κ κy idx y n) (hM : xMet (gl Γ) (gG Γ) y κy none (.ref a :: as) τ Kr mc ms) (hn : as.length = n) (hst : st = as.reverse ++ .ref a :: rest) (hcat : (rest.map fun v => v.category).sum ≤ 8) (hm1 : mc ≤ rc) (hm2 : ms ≤ rs) (kk : ∀ (v : Option Value) (τ' : xT), Kr v τ' → xX Γ κ (pc + 3) L (v.toList ++ rest) τ' (rc - mc) (rs - ms)) : xX Γ κ pc L st τ rc rs := by
  intro ok H locs ls cs ss hW hS h1 h2 h
  obtain ⟨w0, w1, w2, w3, w4⟩ := w
  exact xafter ok hS h1 h2 h hm1 hm2 (va_runIN (host := "RentStream") (xfix ok) hM ⟨va_cnB n ok.2.2.2.2.1 (xgood [] (fun _ h => nomatch h) w2) rfl rfl rfl (ok.2.2.2.2.2.1.2.1 _ w0) (ok.2.2.2.2.1 _ (w1 _ (by simp))) w4.1 ⟨Nat.le_trans w4.2.1 ok.2.2.2.2.2.2.1, Nat.le_trans w4.2.2 ok.2.2.2.2.2.2.2.1⟩, w3, ok.2.2.2.2.1 _ (w1 _ (by simp))⟩ ⟨xPre.blind, xPre.at ok hW hS⟩ rfl hn h.1 hst (lv_room hcat) d ⟨by omega, by omega⟩) kk
theorem x_invSN {idx n : Nat} (d : decode κ.2.1 pc = .ok (.invokestatic idx, 3)) (w : xLSN κ κy idx y ret n) (hM : xMet (gl Γ) (gG Γ) y κy ret as τ Kr mc ms) (hn : as.length = n) (hst : st = as.reverse ++ rest) (hcat : (rest.map fun v => v.category).sum ≤ 8) (hm1 : mc ≤ rc) (hm2 : ms ≤ rs) (kk : ∀ (v : Option Value) (τ' : xT), Kr v τ' → xX Γ κ (pc + 3) L (v.toList ++ rest) τ' (rc - mc) (rs - ms)) : xX Γ κ pc L st τ rc rs := by
  intro ok H locs ls cs ss hW hS h1 h2 h
  obtain ⟨w0, w1, w2, w4⟩ := w
  exact xafter ok hS h1 h2 h hm1 hm2 (va_runSN (host := "RentStream") (xfix ok) hM ⟨va_cnB n ok.2.2.2.2.1 (xgood [] (fun _ h => nomatch h) w2) rfl rfl rfl (ok.2.2.2.2.2.1.2.1 _ w0) (ok.2.2.2.2.1 _ (w1 _ (by simp))) w4.1 ⟨Nat.le_trans w4.2.1 ok.2.2.2.2.2.2.1, Nat.le_trans w4.2.2 ok.2.2.2.2.2.2.2.1⟩, ok.2.2.2.2.1 _ (w1 _ (by simp)), trivial⟩ ⟨xPre.blind, xPre.at ok hW hS⟩ rfl hn h.1 hst (lv_room hcat) d ⟨by omega, by omega⟩) kk
theorem x_invSU {idx n ci : Nat} {fs : List Value} {q : vw_C} (d : decode κ.2.1 pc = .ok (.invokespecial idx, 3)) (hc : xCl[ci]? = some q) (w : xLSU κ κy idx y ret n) (hτ : τ a = some (.inr (ci, fs))) (hM : xMet (gl Γ) (gG Γ) y κy ret (.ref a :: as) τ Kr mc ms) (hn : as.length = n) (hst : st = as.reverse ++ .ref a :: rest) (hcat : (rest.map fun v => v.category).sum ≤ 8) (hm1 : mc ≤ rc) (hm2 : ms ≤ rs) (kk : ∀ (v : Option Value) (τ' : xT), Kr v τ' → xX Γ κ (pc + 3) L (v.toList ++ rest) τ' (rc - mc) (rs - ms)) : xX Γ κ pc L st τ rc rs := by
  intro ok H locs ls cs ss hW hS h1 h2 h
  obtain ⟨w1, w2, w3, w4⟩ := w
  have hG : GoodIn xBW (va_wsSU κ.1 idx y (xws y κy ret)) := xgood _ w1 w2
  exact xafter ok hS h1 h2 h hm1 hm2 (va_runSU (C := q.1) (ok.2.2.2.2.2.1.1.1 ci q hc).2 (xfix ok) hM (va_cwSU n ok.2.2.2.2.1 hG rfl rfl rfl ⟨w3, w4.1.2.2⟩ ⟨Nat.le_trans w4.2.1 ok.2.2.2.2.2.2.1, Nat.le_trans w4.2.2 ok.2.2.2.2.2.2.2.1⟩) ⟨xPre.blind, xrecv ok hW hτ hc, xPre.at ok hW hS⟩ rfl hn h.1 hst (lv_room hcat) d ⟨by omega, by omega⟩) kk
/-- Object.<init> -/
theorem x_objInit {idx : Nat} (d : decode κ.2.1 pc = .ok (.invokespecial idx, 3)) (w : ∀ w ∈ [Cond.methodLink κ.1 idx objectInit, .instanceMethod objectInit, .code objectInit ⟨#[0xb1]⟩ 1 none], w ∈ xBW) (hf : 1 ≤ κ.2.2.2.1) (hl : 20 ≤ κ.2.2.2.2) (hcat : (rest.map fun v => v.category).sum ≤ 8) (kk : xX Γ κ (pc + 3) L rest τ rc rs) : xX Γ κ pc L (.ref a :: rest) τ rc rs := by
  intro ok H locs ls cs ss hW hS h1 h2 h
  refine W.objInit ok.1 ok.2.1 ok.2.2.2.1 (ok.2.2.2.2.1 _ (w _ (by simp))) (ok.2.2.2.2.1 _ (w _ (by simp))) (ok.2.2.2.2.1 _ (w _ (by simp))) rfl (by rw [ok.2.2.1]; exact h.1) rfl d (Nat.le_trans hf ok.2.2.2.2.2.2.1) ?_ ?_
  · have h9 := ok.2.2.2.2.2.2.2.1
    show 2 * 0 + _ + 12 ≤ _
    omega
  · exact kk ok H locs ls cs ss hW hS h1 h2 h
/-- an exception leaves the method -/
theorem x_thrown {E : String} (ht : xThr Γ Kx) (hK : Kx E τ) : xXt Γ κ pc L rest E τ rc rs := by
  intro ok H locs ls cs ss q ce hW hS h1 h2 h hce hcv hcl
  obtain ⟨⟨Kr, hQ⟩, hout⟩ := ht
  rw [hQ]
  exact vx_out (fun x hx => (hout x hx).elim) ok.2.2.2.2.2.2.2.2.1 hce hcv hcl (fun t htt hvm => ⟨τ, hK, by rw [htt]; exact hW.moved hvm, hS.F htt⟩) hS.2.2 (by omega) (by omega)
/-- the words of 'throw new cls(text)' in the class own -/
def xTW (own : String) (ik ic : Nat) (cls : String) (names : List String) : Prop := Bundle.fit cls = true ∧ (∀ n ∈ names, Bundle.fit n = true) ∧ Cond.classLink own ik cls ∈ xBW ∧ Cond.initialized cls ∈ xBW ∧ (∀ w ∈ (vx_atS own ic cls names).filter goodWord, w ∈ xBW) ∧ (∀ w ∈ (vx_atS own ic cls names).filter (fun w => !goodWord w), w ∈ (xDecl.map Cond.declares) ++ (xCast.map fun q => Cond.castable q.1 q.2)) ∧ (∀ w ∈ Cond.classLink own ik cls :: Cond.initialized cls :: vx_atS own ic cls names, vx_ot w = true)
theorem x_throw {ik is ic : Nat} {cls text : String} {names : List String} (d0 : decode κ.2.1 pc = .ok (.new ik, 3)) (d3 : decode κ.2.1 (pc + 3) = .ok (.dup, 1)) (d4 : decode κ.2.1 (pc + 4) = .ok (.ldc is, 2)) (d6 : decode κ.2.1 (pc + 6) = .ok (.invokespecial ic, 3)) (d9 : decode κ.2.1 (pc + 9) = .ok (.athrow, 1)) (w : xTW κ.1 ik ic cls names) (hs : (κ.1, is, text) ∈ xStr) (ht : xThr Γ Kx) (hf : names.length + 3 < κ.2.2.2.1) (hlo : 8 + (13 * (names.length + 1) + 43) ≤ κ.2.2.2.2) (hcat : (rest.map fun v => v.category).sum ≤ 8) (hrc : 1 ≤ rc) (hrs : 6 ≤ rs) (hK : Kx cls τ) : xX Γ κ pc L rest τ rc rs := by
  intro ok H locs ls cs ss hW hS h1 h2 h
  obtain ⟨⟨Kr, hQ⟩, hout⟩ := ht
  obtain ⟨w1, w2, w3, w4, w5, w6, w7⟩ := w
  obtain ⟨sa, hsa⟩ := ok.2.2.2.2.2.1.2.2.2.2.1 _ hs
  have hts := ok.2.2.2.2.1
  have hamb := ok.2.2.2.2.2.1
  have h9 := ok.2.2.2.2.2.2.1
  have h10 := ok.2.2.2.2.2.2.2.1
  have hat : ∀ w ∈ vx_atS κ.1 ic cls names, w.before (ga Γ) (gs Γ) = true := vx_hat (fun w hw => hts w (w5 w hw)) w6 (fun w hw => by
    rcases List.mem_append.mp hw with q | q
    · obtain ⟨z, hz, rfl⟩ := List.mem_map.mp q
      exact va_Nw.use rfl (hamb.2.2.2.1 z hz)
    · obtain ⟨z, hz, rfl⟩ := List.mem_map.mp q
      exact va_Nw.use rfl (hamb.2.2.1 z hz))
  rw [hQ]
  refine vx_throwS ok.1 ok.2.1 ok.2.2.2.2.2.2.2.2.2 (A := xA (gG Γ)) ok.2.2.2.1 w1 w2 (hts _ w3) (hts _ w4) hsa hat w7 (hamb.2.2.2.2.2.2.1 (Bundle.tN, "UNASSIGNED_STACK", Bundle.steD) (by simp [xStq])) (hamb.2.2.2.2.2.2.1 (Bundle.tN, "SUPPRESSED_SENTINEL", Bundle.listD) (by simp [xStq])) hS (by rw [ok.2.2.1]; exact h.1) d0 d3 d4 d6 d9 (fun x hx => (hout x hx).elim) (by omega) (by omega) (by omega) (by omega) ok.2.2.2.2.2.2.2.2.1 (fun t hvm hz hq => ?_) hS.2.2 (by omega) (by omega)
  refine ⟨τ, hK, (hW.kept hq).moved hvm, Nat.le_trans hS.1 hz, fun q q1 q2 => (hq q (Nat.lt_of_lt_of_le q1 hS.1)).trans (hS.2.1 q q1 q2)⟩
end XCALL
end
section
/-! ===== arraycopy, getClass, class objects; the private methods of AbstractStringBuilder ===== -/
theorem xsel_private {C : String} {y : MethodName} {s : State} {args : Array Value} {n : Nat} (hy : y.cls ≠ "java/lang/invoke/MethodHandle" ∧ y.cls ≠ "java/lang/invoke/VarHandle") (hins : (Cond.instantiable C n).before args s = true) (hpriv : (Cond.privateMethod y).before args s = true) (hinst : (Cond.instanceMethod y).before args s = true) (hsame : (Cond.sameMethod y.cls y.cls y.name y.desc).before args s = true) : (Cond.selects C y y).before args s = true := by
  obtain ⟨c, k, hc, hk, -, -, -, -⟩ := Cond.instantiable_spec hins
  obtain ⟨mk, methM, hnamed, hmethM, -, -⟩ := Cond.instanceMethod_spec hinst
  have hfound : s.methodFound? y.cls y.name y.desc = some mk := State.methodFound?_of_named hnamed hy
  obtain ⟨-, k2, hk2, hni⟩ := Cond.sameMethod_spec (findClass_of_methodNamed hnamed) hfound hsame
  have hsel : selectMethod {} s.vm c mk = .method mk := selectMethod_private hmethM (Cond.privateMethod_at hpriv mk methM hnamed hmethM)
  simp only [Cond.before, Cond.holds, Cond.value, hc, hfound, hnamed, hsel, hk2]
  simp; exact hni
theorem xtb_ok {args : Array Value} {s : State} (h : ∀ w ∈ lw_tbl, w.before args s = true) : ∀ w ∈ xtb, w.before args s = true := by
  intro w hw
  rcases List.mem_append.mp hw with q | q
  · obtain ⟨y, hy, rfl⟩ := List.mem_map.mp q
    have key : (y.cls ≠ "java/lang/invoke/MethodHandle" ∧ y.cls ≠ "java/lang/invoke/VarHandle") ∧ Cond.privateMethod y ∈ lw_tbl ∧ Cond.instanceMethod y ∈ lw_tbl ∧ Cond.sameMethod y.cls y.cls y.name y.desc ∈ lw_tbl := by
      simp only [xSB, List.mem_cons, List.not_mem_nil, or_false] at hy
      rcases hy with rfl | rfl | rfl | rfl
      · exact ⟨by decide +kernel, List.mem_of_getElem? (i := 45 + 860) (by decide +kernel), List.mem_of_getElem? (i := 45 + 861) (by decide +kernel), List.mem_of_getElem? (i := 45 + 1486) (by decide +kernel)⟩
      · exact ⟨by decide +kernel, List.mem_of_getElem? (i := 45 + 864) (by decide +kernel), List.mem_of_getElem? (i := 45 + 865) (by decide +kernel), List.mem_of_getElem? (i := 45 + 1487) (by decide +kernel)⟩
      · exact ⟨by decide +kernel, List.mem_of_getElem? (i := 45 + 920) (by decide +kernel), List.mem_of_getElem? (i := 45 + 921) (by decide +kernel), List.mem_of_getElem? (i := 45 + 1488) (by decide +kernel)⟩
      · exact ⟨by decide +kernel, List.mem_of_getElem? (i := 45 + 924) (by decide +kernel), List.mem_of_getElem? (i := 45 + 925) (by decide +kernel), List.mem_of_getElem? (i := 45 + 1489) (by decide +kernel)⟩
    exact xsel_private key.1 (h _ (List.mem_of_getElem? (i := 45 + 80) (by decide +kernel) : Cond.instantiable "java/lang/StringBuilder" 4 ∈ lw_tbl)) (h _ key.2.1) (h _ key.2.2.1) (h _ key.2.2.2)
  · exact h w q
theorem xnn {z : Int32} (hz : ¬ z < 0) : z.toInt = (z.toNatClampNeg : Int) := by
  have hz0 : (0 : Int) ≤ z.toInt := by
    have := Int32.not_lt.mp hz
    simpa using Int32.le_iff_toInt_le.mp this
  show z.toInt = ((z.toInt.toNat : Nat) : Int)
  omega
section XNAT
variable {Γ : xΓ} {κ : xκ} {pc : Nat} {L : List (Nat × Value)} {rest : List Value} {τ : xT} {rc rs : Nat} {a b : Nat}
/-- the words of System.arraycopy -/
def xLC (own : String) (idx : Nat) : Prop := Cond.methodLink own idx arraycopyName ∈ xBW ∧ Cond.native arraycopyName ∈ xBW ∧ Cond.static arraycopyName ∈ xBW ∧ Cond.initialized "java/lang/System" ∈ xBW
theorem xbytes {G : xG} {s : State} {H : Heap} {k n : Nat} {f : Nat → Int32} (hK : va_K G.1 xCl (xTys G) s) (hk : k = 3 ∨ k = 7) (h : xat G s a (.inl (k, n, .inl f)) H) : ∃ cell : Cell, H[a]? = some cell ∧ s.isArrayOf cell .byte ∧ cell.vm ≠ .unknown ∧ n ≤ cell.slots.size ∧ ∀ j : Nat, j < n → cell.slots[j]? = some (.int (f j)) := by
  rcases hk with rfl | rfl
  · refine ⟨_, (h.1 (by decide)).1, (hK.2 3 _ rfl).1 n (fun j => .int (f j)), (fun q => by cases q), (by show n ≤ (arrV _ _ _).slots.size; rw [arrV_size]; exact Nat.le_refl _), fun j hj => ?_⟩
    show (arrV _ _ _).slots[_]? = _
    rw [arrV_read _ _ hj]
  · obtain ⟨g, e, cell, q1, q2, q3, q4, q5, q6, -⟩ := h.2.1 rfl
    cases e
    exact ⟨cell, q1, q2, q3, q4, q6⟩
theorem x_copyB {idx k n0 n1 : Nat} {f g : Nat → Int32} {sp dp n : Int32} (d : decode κ.2.1 pc = .ok (.invokestatic idx, 3)) (w : xLC κ.1 idx) (hfr : 1 ≤ κ.2.2.2.1) (hlo : 60 ≤ κ.2.2.2.2) (hcat : (rest.map fun v => v.category).sum ≤ 8)
    (h0 : τ b = some (.inl (k, n0, .inl f))) (hk : k = 3 ∨ k = 7) (h1 : τ a = some (.inl (3, n1, .inl g))) (hs : ¬ sp < 0) (hd : ¬ dp < 0) (hn : ¬ n < 0) (h4 : sp.toNatClampNeg + n.toNatClampNeg ≤ n0) (h5 : dp.toNatClampNeg + n.toNatClampNeg ≤ n1) (hfit : ∀ i : Nat, i < n.toNatClampNeg → fits .byte (.int (f (sp.toNatClampNeg + i))) = true)
    (kk : xX Γ κ (pc + 3) L rest (xup τ a (.inl (3, n1, .inl (va_cpy f g sp.toNatClampNeg dp.toNatClampNeg n.toNatClampNeg)))) rc rs) : xX Γ κ pc L (.int n :: .int dp :: .ref a :: .int sp :: .ref b :: rest) τ rc rs := by
  intro ok H locs ls cs ss hW hS g1 g2 h T hT X
  have hK := ok.2.2.2.2.2.1.1
  have hts := ok.2.2.2.2.1
  obtain ⟨w1, w2, w3, w4⟩ := w
  obtain ⟨scr, hc0, hs2, hs3, hs4, hs5⟩ := xbytes hK hk (hW b _ h0)
  obtain ⟨hc1, hA⟩ := (hW a _ h1).1 (by decide)
  obtain ⟨hs6, k0, hk0, cm0, hkk0⟩ := hs2
  obtain ⟨-, k1, hk1, cm1, hkk1⟩ := (hK.2 3 _ rfl).1 n1 (fun j => .int (g j))
  have h10 := ok.2.2.2.2.2.2.2.1
  have hw9 : nativeFrameWords "java/lang/System" "arraycopy" 5 ≤ 40 := by decide
  obtain ⟨vm', X', step⟩ := X.arraycopy ok.1 ok.2.2.2.1 (hts _ w1) (hts _ w2) (hts _ w3) (hts _ w4) (src := b) (dst := a) (cs := scr) (cd := vp_cell ((gG Γ).2.1 3) (n1, .inl g)) (srcPos := sp) (destPos := dp) (n := n) (by rw [hT]; exact hc0) (by rw [hT]; exact hc1)
    hs6 (fun _ h => by cases h) hs3 (fun h => by cases h) hk0 hk1 hkk0 hkk1 (by simp [refKind]) hs hd hn
    (by rw [xnn hs, xnn hn]; omega)
    (by rw [xnn hd, xnn hn]; show ¬ _ > ((arrV ((gG Γ).2.1 3) n1 (fun j => .int (g j))).slots.size : Int); rw [arrV_size]; omega)
    (fun vm₁ _ i hi => by
      have e : scr.slots.getD (sp.toNatClampNeg + i) .null = .int (f (sp.toNatClampNeg + i)) := by
        rw [Array.getD_eq_getD_getElem?, hs5 _ (by omega)]
        rfl
      refine ⟨?_, ?_⟩
      · rw [e]
        exact hfit i hi
      · rw [e]
        exact trivial)
    (g := F0 (gm Γ) pc ls (.int n :: .int dp :: .ref a :: .int sp :: .ref b :: rest)) rfl (by rw [ok.2.2.1]; exact h.1) (rest := rest) rfl (by rw [ok.2.1]; exact d) (Nat.le_trans hfr ok.2.2.2.2.2.2.1) (by show 2 * 0 + _ + _ ≤ _; omega)
  have e1 : copied scr (vp_cell ((gG Γ).2.1 3) (n1, .inl g)) sp dp n = vp_cell ((gG Γ).2.1 3) (n1, .inl (va_cpy f g sp.toNatClampNeg dp.toNatClampNeg n.toNatClampNeg)) := va_copiedX (fun z => .int z) scr ((gG Γ).2.1 3) f g hs5 h4
  rw [e1] at X' step
  have hl : a < H.size := (Array.getElem?_eq_some_iff.mp hc1).1
  generalize hcell : vp_cell ((gG Γ).2.1 3) (n1, .inl (va_cpy f g sp.toNatClampNeg dp.toNatClampNeg n.toNatClampNeg)) = cell at X' step
  have hheap : ((T.setVm vm').setCell a cell).heap = H.setIfInBounds a cell := by rw [← hT]; rfl
  have oq : ∀ q : Nat, q ≠ a → (H.setIfInBounds a cell)[q]? = H[q]? := fun q hq => by simp [Array.getElem?_setIfInBounds, Ne.symm hq]
  obtain ⟨t, a1, b1⟩ := kk ok _ _ ls cs ss (hW.set (xat_arr (by decide) (by rw [hcell]; simp [Array.getElem?_setIfInBounds, hl]) hA) oq) ⟨by simp; exact hS.1, fun q g1 g2 => by
      rw [oq q (fun e => g2 (by rw [e]; exact hA))]
      exact hS.2.1 q g1 g2, fun q hq => by
      rcases List.mem_append.mp hq with h | h
      · exact hS.2.2 q h
      · obtain ⟨z, -, hz⟩ := List.mem_map.mp h
        rw [← hz]
        exact hA⟩ g1 g2 h _ hheap X'
  exact ⟨t, step t a1, b1⟩
theorem x_copyQ {idx n0 n1 : Nat} {f g : Nat → Option Nat} {sp dp n : Int32} (d : decode κ.2.1 pc = .ok (.invokestatic idx, 3)) (w : xLC κ.1 idx) (hfr : 1 ≤ κ.2.2.2.1) (hlo : 60 ≤ κ.2.2.2.2) (hcat : (rest.map fun v => v.category).sum ≤ 8)
    (h0 : τ b = some (.inl (6, n0, .inr (.inr (.inr (.inr f)))))) (h1 : τ a = some (.inl (6, n1, .inr (.inr (.inr (.inr g)))))) (hs : ¬ sp < 0) (hd : ¬ dp < 0) (hn : ¬ n < 0) (h4 : sp.toNatClampNeg + n.toNatClampNeg ≤ n0) (h5 : dp.toNatClampNeg + n.toNatClampNeg ≤ n1) (hel : ∀ i : Nat, i < n.toNatClampNeg → ∀ y : Nat, f (sp.toNatClampNeg + i) = some y → ∃ ci fs, τ y = some (.inr (ci, fs)) ∧ xObj ci)
    (kk : xX Γ κ (pc + 3) L rest (xup τ a (.inl (6, n1, .inr (.inr (.inr (.inr (va_cpy f g sp.toNatClampNeg dp.toNatClampNeg n.toNatClampNeg))))))) rc rs) : xX Γ κ pc L (.int n :: .int dp :: .ref a :: .int sp :: .ref b :: rest) τ rc rs := by
  intro ok H locs ls cs ss hW hS g1 g2 h T hT X
  have hK := ok.2.2.2.2.2.1.1
  have hts := ok.2.2.2.2.1
  obtain ⟨w1, w2, w3, w4⟩ := w
  obtain ⟨hc0, -⟩ := (hW b _ h0).1 (by decide)
  obtain ⟨hc1, hA⟩ := (hW a _ h1).1 (by decide)
  obtain ⟨-, k0, hk0, cm0, hkk0⟩ := (hK.2 6 _ rfl).1 n0 (fun j => va_rf (f j))
  obtain ⟨-, k1, hk1, cm1, hkk1⟩ := (hK.2 6 _ rfl).1 n1 (fun j => va_rf (g j))
  have h10 := ok.2.2.2.2.2.2.2.1
  have hw9 : nativeFrameWords "java/lang/System" "arraycopy" 5 ≤ 40 := by decide
  obtain ⟨vm', X', step⟩ := X.arraycopy ok.1 ok.2.2.2.1 (hts _ w1) (hts _ w2) (hts _ w3) (hts _ w4) (src := b) (dst := a) (cs := vp_cell ((gG Γ).2.1 6) (n0, .inr (.inr (.inr (.inr f))))) (cd := vp_cell ((gG Γ).2.1 6) (n1, .inr (.inr (.inr (.inr g))))) (srcPos := sp) (destPos := dp) (n := n) (by rw [hT]; exact hc0) (by rw [hT]; exact hc1)
    (fun _ h => by cases h) (fun _ h => by cases h) (fun h => by cases h) (fun h => by cases h) hk0 hk1 hkk0 hkk1 rfl hs hd hn
    (by rw [xnn hs, xnn hn]; show ¬ _ > ((arrV ((gG Γ).2.1 6) n0 (fun j => va_rf (f j))).slots.size : Int); rw [arrV_size]; omega)
    (by rw [xnn hd, xnn hn]; show ¬ _ > ((arrV ((gG Γ).2.1 6) n1 (fun j => va_rf (g j))).slots.size : Int); rw [arrV_size]; omega)
    (fun vm₁ hal i hi => by
      have e : (vp_cell ((gG Γ).2.1 6) (n0, .inr (.inr (.inr (.inr f))))).slots.getD (sp.toNatClampNeg + i) .null = va_rf (f (sp.toNatClampNeg + i)) := by
        show (arrV ((gG Γ).2.1 6) n0 (fun j => va_rf (f j))).slots.getD _ _ = _
        rw [Array.getD_eq_getD_getElem?, arrV_read _ _ (by omega)]
        rfl
      rw [e]
      cases hy : f (sp.toNatClampNeg + i) with
      | none => exact ⟨rfl, trivial⟩
      | some y =>
        obtain ⟨ci, fs, hτy, r, hr, hcast⟩ := hel i hi y hy
        have hci := xCl_lt hr
        obtain ⟨cellV, e1, e3, e4⟩ := va_recv hK (xP1 ((hW y _ hτy).1 (by omega)).1) hr (q0 := 0) rfl
        obtain ⟨kC, hkC, -⟩ := Vm.findClass_spec e4
        obtain ⟨c0, t0, f1, f2, f3⟩ := Cond.castable_spec (va_Nw.use (A := ga Γ) rfl (ok.2.2.2.2.2.1.2.2.1 _ hcast))
        cases e4.symm.trans f1
        obtain ⟨kA, comp, r1, r2, r3, -⟩ := (hK.2 6 _ rfl).2
        cases hk1.symm.trans r1
        cases hkk1.symm.trans r2
        cases r3.symm.trans f2
        obtain ⟨kE, hkE, -⟩ := Vm.findClass_spec r3
        obtain ⟨kC', hkC', -⟩ := hal.2.2 _ _ hkC
        obtain ⟨kE', hkE', -⟩ := hal.2.2 _ _ hkE
        refine ⟨rfl, cellV, (show T.heap[y]? = some cellV by rw [hT]; exact e1), (fun q h => by rw [h] at e3; cases e3), ⟨kC', hkC'⟩, ?_, ?_⟩
        · exact ⟨kE', hkE'⟩
        · show vm₁.assignable _ _ = true
          rw [hal.assignable]
          exact f3)
    (g := F0 (gm Γ) pc ls (.int n :: .int dp :: .ref a :: .int sp :: .ref b :: rest)) rfl (by rw [ok.2.2.1]; exact h.1) (rest := rest) rfl (by rw [ok.2.1]; exact d) (Nat.le_trans hfr ok.2.2.2.2.2.2.1) (by show 2 * 0 + _ + _ ≤ _; omega)
  have e1 : copied (vp_cell ((gG Γ).2.1 6) (n0, .inr (.inr (.inr (.inr f))))) (vp_cell ((gG Γ).2.1 6) (n1, .inr (.inr (.inr (.inr g))))) sp dp n = vp_cell ((gG Γ).2.1 6) (n1, .inr (.inr (.inr (.inr (va_cpy f g sp.toNatClampNeg dp.toNatClampNeg n.toNatClampNeg))))) := by
    rw [vp_cell_q, vp_cell_q, vp_cell_q]
    exact va_copied (fun z => va_rf z) _ _ f g h4
  rw [e1] at X' step
  have hl : a < H.size := (Array.getElem?_eq_some_iff.mp hc1).1
  generalize hcell : vp_cell ((gG Γ).2.1 6) (n1, .inr (.inr (.inr (.inr (va_cpy f g sp.toNatClampNeg dp.toNatClampNeg n.toNatClampNeg))))) = cell at X' step
  have hheap : ((T.setVm vm').setCell a cell).heap = H.setIfInBounds a cell := by rw [← hT]; rfl
  have oq : ∀ q : Nat, q ≠ a → (H.setIfInBounds a cell)[q]? = H[q]? := fun q hq => by simp [Array.getElem?_setIfInBounds, Ne.symm hq]
  obtain ⟨t, a1, b1⟩ := kk ok _ _ ls cs ss (hW.set (xat_arr (by decide) (by rw [hcell]; simp [Array.getElem?_setIfInBounds, hl]) hA) oq) ⟨by simp; exact hS.1, fun q g1 g2 => by
      rw [oq q (fun e => g2 (by rw [e]; exact hA))]
      exact hS.2.1 q g1 g2, fun q hq => by
      rcases List.mem_append.mp hq with h | h
      · exact hS.2.2 q h
      · obtain ⟨z, -, hz⟩ := List.mem_map.mp h
        rw [← hz]
        exact hA⟩ g1 g2 h _ hheap X'
  exact ⟨t, step t a1, b1⟩
/-- the class object of Object[] -/
theorem x_ldcM {idx : Nat} (d : decode κ.2.1 pc = .ok (.ldc idx, 2)) (w : Cond.classLink κ.1 idx "[Ljava/lang/Object;" ∈ xBW) (kk : xX Γ κ (pc + 2) L (.ref ((gG Γ).2.2.2 5) :: rest) τ rc rs) : xX Γ κ pc L rest τ rc rs := by
  intro ok H locs ls cs ss hW hS h1 h2 h
  exact va_ldcM ok.1 ok.2.1 ok.2.2.2.1 (ok.2.2.2.2.1 _ w) ok.2.2.2.2.2.1.2.2.2.2.2.2.2.2.2.2.1 d (kk ok H locs ls cs ss hW hS h1 h2 h)
abbrev xGetC : MethodName := ⟨"java/lang/Object", "getClass", "()Ljava/lang/Class;"⟩
theorem x_getC {idx n : Nat} {f : Nat → Option Nat} (d : decode κ.2.1 pc = .ok (.invokevirtual idx, 3)) (w : ∀ w ∈ [Cond.methodLink κ.1 idx xGetC, .selects "[Ljava/lang/Object;" xGetC xGetC, .instanceMethod xGetC, .native xGetC], w ∈ xBW) (hfr : 1 ≤ κ.2.2.2.1) (hlo : 60 ≤ κ.2.2.2.2) (hcat : (rest.map fun v => v.category).sum ≤ 8) (h0 : τ a = some (.inl (6, n, .inr (.inr (.inr (.inr f)))))) (kk : xX Γ κ (pc + 3) L (.ref ((gG Γ).2.2.2 5) :: rest) τ rc rs) : xX Γ κ pc L (.ref a :: rest) τ rc rs := by
  intro ok H locs ls cs ss hW hS h1 h2 h
  have hts := ok.2.2.2.2.1
  have h10 := ok.2.2.2.2.2.2.2.1
  refine va_getC ok.1 ok.2.1 (by rw [ok.2.2.1]; exact h.1.symm) ok.2.2.2.1 (hts _ (w _ (by simp))) (va_Nw.use rfl (ok.2.2.2.2.2.1.2.2.2.1 xGetC (by simp [xDecl]))) (hts _ (w _ (by simp))) (hts _ (w _ (by simp))) (hts _ (w _ (by simp))) ok.2.2.2.2.2.1.2.2.2.2.2.2.2.2.2.2.1 ⟨_, ((hW a _ h0).1 (by decide)).1, rfl, ?_⟩ (Nat.le_trans hfr ok.2.2.2.2.2.2.1) (by omega) d (kk ok H locs ls cs ss hW hS h1 h2 h)
  exact va_nmO (ok.2.2.2.2.2.1.1.2 6 _ rfl).2 (by decide)
end XNAT
end
