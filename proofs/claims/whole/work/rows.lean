section
-- ===== PART A: goes FIRST, ahead of the names: the tables' words, and 'selects' of the private methods out of them =====
/-- a private method of a class that the tables say can be made, by its rows of tables_1 -/
def lw_okq (q : MethodName × Nat) : Prop := (q.1.cls ≠ "java/lang/invoke/MethodHandle" ∧ q.1.cls ≠ "java/lang/invoke/VarHandle") ∧ Cond.instantiable q.1.cls q.2 ∈ tables_1 ∧ Cond.privateMethod q.1 ∈ tables_1 ∧ Cond.instanceMethod q.1 ∈ tables_1
theorem lw_p0 : lw_okq (⟨"java/lang/Throwable", "fillInStackTrace", "(I)Ljava/lang/Throwable;"⟩, 6) := ⟨⟨by decide +kernel, by decide +kernel⟩, List.mem_of_getElem? (i := 485) (by decide +kernel), List.mem_of_getElem? (i := 483) (by decide +kernel), List.mem_of_getElem? (i := 484) (by decide +kernel)⟩
theorem lw_p1 : lw_okq (⟨"SearchKeeper$Keeper", "doNext", "(I)I"⟩, 6) := ⟨⟨by decide +kernel, by decide +kernel⟩, List.mem_of_getElem? (i := 200) (by decide +kernel), List.mem_of_getElem? (i := 829) (by decide +kernel), List.mem_of_getElem? (i := 830) (by decide +kernel)⟩
theorem lw_p2 : lw_okq (⟨"SearchKeeper$Keeper", "hear", "(LSearchKeeper$Root;)V"⟩, 6) := ⟨⟨by decide +kernel, by decide +kernel⟩, List.mem_of_getElem? (i := 200) (by decide +kernel), List.mem_of_getElem? (i := 834) (by decide +kernel), List.mem_of_getElem? (i := 835) (by decide +kernel)⟩
theorem lw_p3 : lw_okq (⟨"SearchKeeper$Keeper", "act", "(II)I"⟩, 6) := ⟨⟨by decide +kernel, by decide +kernel⟩, List.mem_of_getElem? (i := 200) (by decide +kernel), List.mem_of_getElem? (i := 847) (by decide +kernel), List.mem_of_getElem? (i := 848) (by decide +kernel)⟩
theorem lw_p4 : lw_okq (⟨"SearchKeeper$Keeper", "lookAtFile", "(II)I"⟩, 6) := ⟨⟨by decide +kernel, by decide +kernel⟩, List.mem_of_getElem? (i := 200) (by decide +kernel), List.mem_of_getElem? (i := 857) (by decide +kernel), List.mem_of_getElem? (i := 858) (by decide +kernel)⟩
theorem lw_p5 : lw_okq (⟨"SearchKeeper$Keeper", "lookAtFolder", "(I)V"⟩, 6) := ⟨⟨by decide +kernel, by decide +kernel⟩, List.mem_of_getElem? (i := 200) (by decide +kernel), List.mem_of_getElem? (i := 915) (by decide +kernel), List.mem_of_getElem? (i := 916) (by decide +kernel)⟩
theorem lw_p6 : lw_okq (⟨"SearchKeeper$Keeper", "crawlOn", "(LSearchKeeper$Root;)V"⟩, 6) := ⟨⟨by decide +kernel, by decide +kernel⟩, List.mem_of_getElem? (i := 200) (by decide +kernel), List.mem_of_getElem? (i := 924) (by decide +kernel), List.mem_of_getElem? (i := 925) (by decide +kernel)⟩
theorem lw_p7 : lw_okq (⟨"SearchKeeper$Keeper", "meetAllIn", "(ILSearchKeeper$Crawl;)V"⟩, 6) := ⟨⟨by decide +kernel, by decide +kernel⟩, List.mem_of_getElem? (i := 200) (by decide +kernel), List.mem_of_getElem? (i := 933) (by decide +kernel), List.mem_of_getElem? (i := 934) (by decide +kernel)⟩
theorem lw_p8 : lw_okq (⟨"SearchKeeper$Keeper", "lookAtUnmet", "(LSearchKeeper$Crawl;)V"⟩, 6) := ⟨⟨by decide +kernel, by decide +kernel⟩, List.mem_of_getElem? (i := 200) (by decide +kernel), List.mem_of_getElem? (i := 944) (by decide +kernel), List.mem_of_getElem? (i := 945) (by decide +kernel)⟩
theorem lw_p9 : lw_okq (⟨"SearchKeeper$Index", "bury", "(I)V"⟩, 4) := ⟨⟨by decide +kernel, by decide +kernel⟩, List.mem_of_getElem? (i := 225) (by decide +kernel), List.mem_of_getElem? (i := 965) (by decide +kernel), List.mem_of_getElem? (i := 966) (by decide +kernel)⟩
theorem lw_p10 : lw_okq (⟨"SearchKeeper$Index", "addSegment", "(LSearchKeeper$Entries;)V"⟩, 4) := ⟨⟨by decide +kernel, by decide +kernel⟩, List.mem_of_getElem? (i := 225) (by decide +kernel), List.mem_of_getElem? (i := 969) (by decide +kernel), List.mem_of_getElem? (i := 970) (by decide +kernel)⟩
theorem lw_p11 : lw_okq (⟨"SearchKeeper$Index", "close", "(I)V"⟩, 4) := ⟨⟨by decide +kernel, by decide +kernel⟩, List.mem_of_getElem? (i := 225) (by decide +kernel), List.mem_of_getElem? (i := 973) (by decide +kernel), List.mem_of_getElem? (i := 974) (by decide +kernel)⟩
theorem lw_p12 : lw_okq (⟨"SearchKeeper$Index", "smallestPair", "()I"⟩, 4) := ⟨⟨by decide +kernel, by decide +kernel⟩, List.mem_of_getElem? (i := 225) (by decide +kernel), List.mem_of_getElem? (i := 977) (by decide +kernel), List.mem_of_getElem? (i := 978) (by decide +kernel)⟩
theorem lw_p13 : lw_okq (⟨"SearchKeeper$Index", "joinWithNext", "(I)V"⟩, 4) := ⟨⟨by decide +kernel, by decide +kernel⟩, List.mem_of_getElem? (i := 225) (by decide +kernel), List.mem_of_getElem? (i := 981) (by decide +kernel), List.mem_of_getElem? (i := 982) (by decide +kernel)⟩
theorem lw_p14 : lw_okq (⟨"SearchKeeper", "isMadeOrNone", "(I)Z"⟩, 9) := ⟨⟨by decide +kernel, by decide +kernel⟩, List.mem_of_getElem? (i := 21) (by decide +kernel), List.mem_of_getElem? (i := 1018) (by decide +kernel), List.mem_of_getElem? (i := 1019) (by decide +kernel)⟩
theorem lw_p15 : lw_okq (⟨"SearchKeeper$Questions", "scoreOf", "(IIII)I"⟩, 6) := ⟨⟨by decide +kernel, by decide +kernel⟩, List.mem_of_getElem? (i := 263) (by decide +kernel), List.mem_of_getElem? (i := 1032) (by decide +kernel), List.mem_of_getElem? (i := 1033) (by decide +kernel)⟩
def lw_privs_1 : List (MethodName × Nat) := [(⟨"java/lang/Throwable", "fillInStackTrace", "(I)Ljava/lang/Throwable;"⟩, 6), (⟨"SearchKeeper$Keeper", "doNext", "(I)I"⟩, 6), (⟨"SearchKeeper$Keeper", "hear", "(LSearchKeeper$Root;)V"⟩, 6), (⟨"SearchKeeper$Keeper", "act", "(II)I"⟩, 6), (⟨"SearchKeeper$Keeper", "lookAtFile", "(II)I"⟩, 6), (⟨"SearchKeeper$Keeper", "lookAtFolder", "(I)V"⟩, 6), (⟨"SearchKeeper$Keeper", "crawlOn", "(LSearchKeeper$Root;)V"⟩, 6), (⟨"SearchKeeper$Keeper", "meetAllIn", "(ILSearchKeeper$Crawl;)V"⟩, 6), (⟨"SearchKeeper$Keeper", "lookAtUnmet", "(LSearchKeeper$Crawl;)V"⟩, 6), (⟨"SearchKeeper$Index", "bury", "(I)V"⟩, 4), (⟨"SearchKeeper$Index", "addSegment", "(LSearchKeeper$Entries;)V"⟩, 4), (⟨"SearchKeeper$Index", "close", "(I)V"⟩, 4), (⟨"SearchKeeper$Index", "smallestPair", "()I"⟩, 4), (⟨"SearchKeeper$Index", "joinWithNext", "(I)V"⟩, 4), (⟨"SearchKeeper", "isMadeOrNone", "(I)Z"⟩, 9), (⟨"SearchKeeper$Questions", "scoreOf", "(IIII)I"⟩, 6)]
theorem lw_r1 : ∀ q ∈ lw_privs_1, lw_okq q := List.forall_mem_cons.mpr ⟨lw_p0, List.forall_mem_cons.mpr ⟨lw_p1, List.forall_mem_cons.mpr ⟨lw_p2, List.forall_mem_cons.mpr ⟨lw_p3, List.forall_mem_cons.mpr ⟨lw_p4, List.forall_mem_cons.mpr ⟨lw_p5, List.forall_mem_cons.mpr ⟨lw_p6, List.forall_mem_cons.mpr ⟨lw_p7, List.forall_mem_cons.mpr ⟨lw_p8, List.forall_mem_cons.mpr ⟨lw_p9, List.forall_mem_cons.mpr ⟨lw_p10, List.forall_mem_cons.mpr ⟨lw_p11, List.forall_mem_cons.mpr ⟨lw_p12, List.forall_mem_cons.mpr ⟨lw_p13, List.forall_mem_cons.mpr ⟨lw_p14, List.forall_mem_cons.mpr ⟨lw_p15, fun _ h => absurd h List.not_mem_nil⟩⟩⟩⟩⟩⟩⟩⟩⟩⟩⟩⟩⟩⟩⟩⟩
theorem lw_p16 : lw_okq (⟨"SearchKeeper$Questions", "isWithinNow", "(II)Z"⟩, 6) := ⟨⟨by decide +kernel, by decide +kernel⟩, List.mem_of_getElem? (i := 263) (by decide +kernel), List.mem_of_getElem? (i := 1058) (by decide +kernel), List.mem_of_getElem? (i := 1059) (by decide +kernel)⟩
theorem lw_p17 : lw_okq (⟨"SearchKeeper$Questions", "countAhead", "(I)I"⟩, 6) := ⟨⟨by decide +kernel, by decide +kernel⟩, List.mem_of_getElem? (i := 263) (by decide +kernel), List.mem_of_getElem? (i := 1079) (by decide +kernel), List.mem_of_getElem? (i := 1080) (by decide +kernel)⟩
theorem lw_p18 : lw_okq (⟨"SearchKeeperModel", "isFolderAt", "(I)Z"⟩, 46) := ⟨⟨by decide +kernel, by decide +kernel⟩, List.mem_of_getElem? (i := 1100) (by decide +kernel), List.mem_of_getElem? (i := 1253) (by decide +kernel), List.mem_of_getElem? (i := 1254) (by decide +kernel)⟩
theorem lw_p19 : lw_okq (⟨"SearchKeeperModel", "isNode", "(I)Z"⟩, 46) := ⟨⟨by decide +kernel, by decide +kernel⟩, List.mem_of_getElem? (i := 1100) (by decide +kernel), List.mem_of_getElem? (i := 1257) (by decide +kernel), List.mem_of_getElem? (i := 1258) (by decide +kernel)⟩
theorem lw_p20 : lw_okq (⟨"SearchKeeperModel", "fails", "(I)I"⟩, 46) := ⟨⟨by decide +kernel, by decide +kernel⟩, List.mem_of_getElem? (i := 1100) (by decide +kernel), List.mem_of_getElem? (i := 1264) (by decide +kernel), List.mem_of_getElem? (i := 1265) (by decide +kernel)⟩
theorem lw_p21 : lw_okq (⟨"SearchKeeperModel", "isTaken", "(ICI)Z"⟩, 46) := ⟨⟨by decide +kernel, by decide +kernel⟩, List.mem_of_getElem? (i := 1100) (by decide +kernel), List.mem_of_getElem? (i := 1268) (by decide +kernel), List.mem_of_getElem? (i := 1269) (by decide +kernel)⟩
theorem lw_p22 : lw_okq (⟨"SearchKeeperModel", "over", "(I)I"⟩, 46) := ⟨⟨by decide +kernel, by decide +kernel⟩, List.mem_of_getElem? (i := 1100) (by decide +kernel), List.mem_of_getElem? (i := 1272) (by decide +kernel), List.mem_of_getElem? (i := 1273) (by decide +kernel)⟩
theorem lw_p23 : lw_okq (⟨"SearchKeeperModel", "isBelow", "(II)Z"⟩, 46) := ⟨⟨by decide +kernel, by decide +kernel⟩, List.mem_of_getElem? (i := 1100) (by decide +kernel), List.mem_of_getElem? (i := 1276) (by decide +kernel), List.mem_of_getElem? (i := 1277) (by decide +kernel)⟩
theorem lw_p24 : lw_okq (⟨"SearchKeeperModel", "comes", "(III)V"⟩, 46) := ⟨⟨by decide +kernel, by decide +kernel⟩, List.mem_of_getElem? (i := 1100) (by decide +kernel), List.mem_of_getElem? (i := 1280) (by decide +kernel), List.mem_of_getElem? (i := 1281) (by decide +kernel)⟩
theorem lw_p25 : lw_okq (⟨"SearchKeeperModel", "isFileAt", "(I)Z"⟩, 46) := ⟨⟨by decide +kernel, by decide +kernel⟩, List.mem_of_getElem? (i := 1100) (by decide +kernel), List.mem_of_getElem? (i := 1288) (by decide +kernel), List.mem_of_getElem? (i := 1289) (by decide +kernel)⟩
theorem lw_p26 : lw_okq (⟨"SearchKeeperModel", "holdsRoot", "(I)Z"⟩, 46) := ⟨⟨by decide +kernel, by decide +kernel⟩, List.mem_of_getElem? (i := 1100) (by decide +kernel), List.mem_of_getElem? (i := 1300) (by decide +kernel), List.mem_of_getElem? (i := 1301) (by decide +kernel)⟩
theorem lw_p27 : lw_okq (⟨"SearchKeeperModel", "rootAt", "(I)I"⟩, 46) := ⟨⟨by decide +kernel, by decide +kernel⟩, List.mem_of_getElem? (i := 1100) (by decide +kernel), List.mem_of_getElem? (i := 1304) (by decide +kernel), List.mem_of_getElem? (i := 1305) (by decide +kernel)⟩
theorem lw_p28 : lw_okq (⟨"SearchKeeperModel", "drops", "(I)V"⟩, 46) := ⟨⟨by decide +kernel, by decide +kernel⟩, List.mem_of_getElem? (i := 1100) (by decide +kernel), List.mem_of_getElem? (i := 1312) (by decide +kernel), List.mem_of_getElem? (i := 1313) (by decide +kernel)⟩
theorem lw_p29 : lw_okq (⟨"SearchKeeperModel", "looksAtLost", "()V"⟩, 46) := ⟨⟨by decide +kernel, by decide +kernel⟩, List.mem_of_getElem? (i := 1100) (by decide +kernel), List.mem_of_getElem? (i := 1316) (by decide +kernel), List.mem_of_getElem? (i := 1317) (by decide +kernel)⟩
theorem lw_p30 : lw_okq (⟨"SearchKeeperModel", "adds", "(II)V"⟩, 46) := ⟨⟨by decide +kernel, by decide +kernel⟩, List.mem_of_getElem? (i := 1100) (by decide +kernel), List.mem_of_getElem? (i := 1320) (by decide +kernel), List.mem_of_getElem? (i := 1321) (by decide +kernel)⟩
theorem lw_p31 : lw_okq (⟨"SearchKeeperModel", "mayReadAt", "(II)Z"⟩, 46) := ⟨⟨by decide +kernel, by decide +kernel⟩, List.mem_of_getElem? (i := 1100) (by decide +kernel), List.mem_of_getElem? (i := 1336) (by decide +kernel), List.mem_of_getElem? (i := 1337) (by decide +kernel)⟩
def lw_privs_2 : List (MethodName × Nat) := [(⟨"SearchKeeper$Questions", "isWithinNow", "(II)Z"⟩, 6), (⟨"SearchKeeper$Questions", "countAhead", "(I)I"⟩, 6), (⟨"SearchKeeperModel", "isFolderAt", "(I)Z"⟩, 46), (⟨"SearchKeeperModel", "isNode", "(I)Z"⟩, 46), (⟨"SearchKeeperModel", "fails", "(I)I"⟩, 46), (⟨"SearchKeeperModel", "isTaken", "(ICI)Z"⟩, 46), (⟨"SearchKeeperModel", "over", "(I)I"⟩, 46), (⟨"SearchKeeperModel", "isBelow", "(II)Z"⟩, 46), (⟨"SearchKeeperModel", "comes", "(III)V"⟩, 46), (⟨"SearchKeeperModel", "isFileAt", "(I)Z"⟩, 46), (⟨"SearchKeeperModel", "holdsRoot", "(I)Z"⟩, 46), (⟨"SearchKeeperModel", "rootAt", "(I)I"⟩, 46), (⟨"SearchKeeperModel", "drops", "(I)V"⟩, 46), (⟨"SearchKeeperModel", "looksAtLost", "()V"⟩, 46), (⟨"SearchKeeperModel", "adds", "(II)V"⟩, 46), (⟨"SearchKeeperModel", "mayReadAt", "(II)Z"⟩, 46)]
theorem lw_r2 : ∀ q ∈ lw_privs_2, lw_okq q := List.forall_mem_cons.mpr ⟨lw_p16, List.forall_mem_cons.mpr ⟨lw_p17, List.forall_mem_cons.mpr ⟨lw_p18, List.forall_mem_cons.mpr ⟨lw_p19, List.forall_mem_cons.mpr ⟨lw_p20, List.forall_mem_cons.mpr ⟨lw_p21, List.forall_mem_cons.mpr ⟨lw_p22, List.forall_mem_cons.mpr ⟨lw_p23, List.forall_mem_cons.mpr ⟨lw_p24, List.forall_mem_cons.mpr ⟨lw_p25, List.forall_mem_cons.mpr ⟨lw_p26, List.forall_mem_cons.mpr ⟨lw_p27, List.forall_mem_cons.mpr ⟨lw_p28, List.forall_mem_cons.mpr ⟨lw_p29, List.forall_mem_cons.mpr ⟨lw_p30, List.forall_mem_cons.mpr ⟨lw_p31, fun _ h => absurd h List.not_mem_nil⟩⟩⟩⟩⟩⟩⟩⟩⟩⟩⟩⟩⟩⟩⟩⟩
theorem lw_p32 : lw_okq (⟨"SearchKeeperModel", "beginsCrawl", "(I)V"⟩, 46) := ⟨⟨by decide +kernel, by decide +kernel⟩, List.mem_of_getElem? (i := 1100) (by decide +kernel), List.mem_of_getElem? (i := 1348) (by decide +kernel), List.mem_of_getElem? (i := 1349) (by decide +kernel)⟩
theorem lw_p33 : lw_okq (⟨"SearchKeeperModel", "does", "(I)I"⟩, 46) := ⟨⟨by decide +kernel, by decide +kernel⟩, List.mem_of_getElem? (i := 1100) (by decide +kernel), List.mem_of_getElem? (i := 1381) (by decide +kernel), List.mem_of_getElem? (i := 1382) (by decide +kernel)⟩
theorem lw_p34 : lw_okq (⟨"SearchKeeperModel", "firstNoticed", "()I"⟩, 46) := ⟨⟨by decide +kernel, by decide +kernel⟩, List.mem_of_getElem? (i := 1100) (by decide +kernel), List.mem_of_getElem? (i := 1385) (by decide +kernel), List.mem_of_getElem? (i := 1386) (by decide +kernel)⟩
theorem lw_p35 : lw_okq (⟨"SearchKeeperModel", "firstAct", "()I"⟩, 46) := ⟨⟨by decide +kernel, by decide +kernel⟩, List.mem_of_getElem? (i := 1100) (by decide +kernel), List.mem_of_getElem? (i := 1389) (by decide +kernel), List.mem_of_getElem? (i := 1390) (by decide +kernel)⟩
theorem lw_p36 : lw_okq (⟨"SearchKeeperModel", "firstCrawl", "()I"⟩, 46) := ⟨⟨by decide +kernel, by decide +kernel⟩, List.mem_of_getElem? (i := 1100) (by decide +kernel), List.mem_of_getElem? (i := 1393) (by decide +kernel), List.mem_of_getElem? (i := 1394) (by decide +kernel)⟩
theorem lw_p37 : lw_okq (⟨"SearchKeeperModel", "cost", "(I)I"⟩, 46) := ⟨⟨by decide +kernel, by decide +kernel⟩, List.mem_of_getElem? (i := 1100) (by decide +kernel), List.mem_of_getElem? (i := 1397) (by decide +kernel), List.mem_of_getElem? (i := 1398) (by decide +kernel)⟩
theorem lw_p38 : lw_okq (⟨"SearchKeeperModel", "notes", "(I)V"⟩, 46) := ⟨⟨by decide +kernel, by decide +kernel⟩, List.mem_of_getElem? (i := 1100) (by decide +kernel), List.mem_of_getElem? (i := 1401) (by decide +kernel), List.mem_of_getElem? (i := 1402) (by decide +kernel)⟩
theorem lw_p39 : lw_okq (⟨"SearchKeeperModel", "acts", "(I)V"⟩, 46) := ⟨⟨by decide +kernel, by decide +kernel⟩, List.mem_of_getElem? (i := 1100) (by decide +kernel), List.mem_of_getElem? (i := 1405) (by decide +kernel), List.mem_of_getElem? (i := 1406) (by decide +kernel)⟩
theorem lw_p40 : lw_okq (⟨"SearchKeeperModel", "takesAct", "(I)V"⟩, 46) := ⟨⟨by decide +kernel, by decide +kernel⟩, List.mem_of_getElem? (i := 1100) (by decide +kernel), List.mem_of_getElem? (i := 1409) (by decide +kernel), List.mem_of_getElem? (i := 1410) (by decide +kernel)⟩
theorem lw_p41 : lw_okq (⟨"SearchKeeperModel", "forgets", "(I)V"⟩, 46) := ⟨⟨by decide +kernel, by decide +kernel⟩, List.mem_of_getElem? (i := 1100) (by decide +kernel), List.mem_of_getElem? (i := 1413) (by decide +kernel), List.mem_of_getElem? (i := 1414) (by decide +kernel)⟩
theorem lw_p42 : lw_okq (⟨"SearchKeeperModel", "liesBelow", "(II)Z"⟩, 46) := ⟨⟨by decide +kernel, by decide +kernel⟩, List.mem_of_getElem? (i := 1100) (by decide +kernel), List.mem_of_getElem? (i := 1417) (by decide +kernel), List.mem_of_getElem? (i := 1418) (by decide +kernel)⟩
theorem lw_p43 : lw_okq (⟨"SearchKeeperModel", "kills", "(I)V"⟩, 46) := ⟨⟨by decide +kernel, by decide +kernel⟩, List.mem_of_getElem? (i := 1100) (by decide +kernel), List.mem_of_getElem? (i := 1421) (by decide +kernel), List.mem_of_getElem? (i := 1422) (by decide +kernel)⟩
theorem lw_p44 : lw_okq (⟨"SearchKeeperModel", "places", "(I)V"⟩, 46) := ⟨⟨by decide +kernel, by decide +kernel⟩, List.mem_of_getElem? (i := 1100) (by decide +kernel), List.mem_of_getElem? (i := 1425) (by decide +kernel), List.mem_of_getElem? (i := 1426) (by decide +kernel)⟩
theorem lw_p45 : lw_okq (⟨"SearchKeeperModel", "reads", "(I)V"⟩, 46) := ⟨⟨by decide +kernel, by decide +kernel⟩, List.mem_of_getElem? (i := 1100) (by decide +kernel), List.mem_of_getElem? (i := 1429) (by decide +kernel), List.mem_of_getElem? (i := 1430) (by decide +kernel)⟩
theorem lw_p46 : lw_okq (⟨"SearchKeeperModel", "takesWords", "(I)V"⟩, 46) := ⟨⟨by decide +kernel, by decide +kernel⟩, List.mem_of_getElem? (i := 1100) (by decide +kernel), List.mem_of_getElem? (i := 1433) (by decide +kernel), List.mem_of_getElem? (i := 1434) (by decide +kernel)⟩
theorem lw_p47 : lw_okq (⟨"SearchKeeperModel", "goesOn", "(I)V"⟩, 46) := ⟨⟨by decide +kernel, by decide +kernel⟩, List.mem_of_getElem? (i := 1100) (by decide +kernel), List.mem_of_getElem? (i := 1437) (by decide +kernel), List.mem_of_getElem? (i := 1438) (by decide +kernel)⟩
def lw_privs_3 : List (MethodName × Nat) := [(⟨"SearchKeeperModel", "beginsCrawl", "(I)V"⟩, 46), (⟨"SearchKeeperModel", "does", "(I)I"⟩, 46), (⟨"SearchKeeperModel", "firstNoticed", "()I"⟩, 46), (⟨"SearchKeeperModel", "firstAct", "()I"⟩, 46), (⟨"SearchKeeperModel", "firstCrawl", "()I"⟩, 46), (⟨"SearchKeeperModel", "cost", "(I)I"⟩, 46), (⟨"SearchKeeperModel", "notes", "(I)V"⟩, 46), (⟨"SearchKeeperModel", "acts", "(I)V"⟩, 46), (⟨"SearchKeeperModel", "takesAct", "(I)V"⟩, 46), (⟨"SearchKeeperModel", "forgets", "(I)V"⟩, 46), (⟨"SearchKeeperModel", "liesBelow", "(II)Z"⟩, 46), (⟨"SearchKeeperModel", "kills", "(I)V"⟩, 46), (⟨"SearchKeeperModel", "places", "(I)V"⟩, 46), (⟨"SearchKeeperModel", "reads", "(I)V"⟩, 46), (⟨"SearchKeeperModel", "takesWords", "(I)V"⟩, 46), (⟨"SearchKeeperModel", "goesOn", "(I)V"⟩, 46)]
theorem lw_r3 : ∀ q ∈ lw_privs_3, lw_okq q := List.forall_mem_cons.mpr ⟨lw_p32, List.forall_mem_cons.mpr ⟨lw_p33, List.forall_mem_cons.mpr ⟨lw_p34, List.forall_mem_cons.mpr ⟨lw_p35, List.forall_mem_cons.mpr ⟨lw_p36, List.forall_mem_cons.mpr ⟨lw_p37, List.forall_mem_cons.mpr ⟨lw_p38, List.forall_mem_cons.mpr ⟨lw_p39, List.forall_mem_cons.mpr ⟨lw_p40, List.forall_mem_cons.mpr ⟨lw_p41, List.forall_mem_cons.mpr ⟨lw_p42, List.forall_mem_cons.mpr ⟨lw_p43, List.forall_mem_cons.mpr ⟨lw_p44, List.forall_mem_cons.mpr ⟨lw_p45, List.forall_mem_cons.mpr ⟨lw_p46, List.forall_mem_cons.mpr ⟨lw_p47, fun _ h => absurd h List.not_mem_nil⟩⟩⟩⟩⟩⟩⟩⟩⟩⟩⟩⟩⟩⟩⟩⟩
theorem lw_p48 : lw_okq (⟨"SearchKeeperModel", "isKnown", "(I)Z"⟩, 46) := ⟨⟨by decide +kernel, by decide +kernel⟩, List.mem_of_getElem? (i := 1100) (by decide +kernel), List.mem_of_getElem? (i := 1441) (by decide +kernel), List.mem_of_getElem? (i := 1442) (by decide +kernel)⟩
theorem lw_p49 : lw_okq (⟨"SearchKeeperModel", "isWaiting", "(II)Z"⟩, 46) := ⟨⟨by decide +kernel, by decide +kernel⟩, List.mem_of_getElem? (i := 1100) (by decide +kernel), List.mem_of_getElem? (i := 1445) (by decide +kernel), List.mem_of_getElem? (i := 1446) (by decide +kernel)⟩
theorem lw_p50 : lw_okq (⟨"SearchKeeperModel", "indexes", "()V"⟩, 46) := ⟨⟨by decide +kernel, by decide +kernel⟩, List.mem_of_getElem? (i := 1100) (by decide +kernel), List.mem_of_getElem? (i := 1449) (by decide +kernel), List.mem_of_getElem? (i := 1450) (by decide +kernel)⟩
theorem lw_p51 : lw_okq (⟨"SearchKeeperModel", "count", "(IZ)I"⟩, 46) := ⟨⟨by decide +kernel, by decide +kernel⟩, List.mem_of_getElem? (i := 1100) (by decide +kernel), List.mem_of_getElem? (i := 1453) (by decide +kernel), List.mem_of_getElem? (i := 1454) (by decide +kernel)⟩
theorem lw_p52 : lw_okq (⟨"SearchKeeperModel", "cleans", "(I)V"⟩, 46) := ⟨⟨by decide +kernel, by decide +kernel⟩, List.mem_of_getElem? (i := 1100) (by decide +kernel), List.mem_of_getElem? (i := 1457) (by decide +kernel), List.mem_of_getElem? (i := 1458) (by decide +kernel)⟩
theorem lw_p53 : lw_okq (⟨"SearchKeeperModel", "takesPlace", "(I)V"⟩, 46) := ⟨⟨by decide +kernel, by decide +kernel⟩, List.mem_of_getElem? (i := 1100) (by decide +kernel), List.mem_of_getElem? (i := 1461) (by decide +kernel), List.mem_of_getElem? (i := 1462) (by decide +kernel)⟩
theorem lw_p54 : lw_okq (⟨"SearchKeeperModel", "joins", "(I)V"⟩, 46) := ⟨⟨by decide +kernel, by decide +kernel⟩, List.mem_of_getElem? (i := 1100) (by decide +kernel), List.mem_of_getElem? (i := 1465) (by decide +kernel), List.mem_of_getElem? (i := 1466) (by decide +kernel)⟩
theorem lw_p55 : lw_okq (⟨"SearchKeeperModel", "canAsk", "(IIII)Z"⟩, 46) := ⟨⟨by decide +kernel, by decide +kernel⟩, List.mem_of_getElem? (i := 1100) (by decide +kernel), List.mem_of_getElem? (i := 1505) (by decide +kernel), List.mem_of_getElem? (i := 1506) (by decide +kernel)⟩
theorem lw_p56 : lw_okq (⟨"SearchKeeperModel", "areWords", "(II)Z"⟩, 46) := ⟨⟨by decide +kernel, by decide +kernel⟩, List.mem_of_getElem? (i := 1100) (by decide +kernel), List.mem_of_getElem? (i := 1509) (by decide +kernel), List.mem_of_getElem? (i := 1510) (by decide +kernel)⟩
theorem lw_p57 : lw_okq (⟨"SearchKeeperModel", "isAnswer", "(IIIII)Z"⟩, 46) := ⟨⟨by decide +kernel, by decide +kernel⟩, List.mem_of_getElem? (i := 1100) (by decide +kernel), List.mem_of_getElem? (i := 1513) (by decide +kernel), List.mem_of_getElem? (i := 1514) (by decide +kernel)⟩
theorem lw_p58 : lw_okq (⟨"SearchKeeperModel", "has", "(III)Z"⟩, 46) := ⟨⟨by decide +kernel, by decide +kernel⟩, List.mem_of_getElem? (i := 1100) (by decide +kernel), List.mem_of_getElem? (i := 1517) (by decide +kernel), List.mem_of_getElem? (i := 1518) (by decide +kernel)⟩
theorem lw_p59 : lw_okq (⟨"SearchKeeperModel", "often", "(II)I"⟩, 46) := ⟨⟨by decide +kernel, by decide +kernel⟩, List.mem_of_getElem? (i := 1100) (by decide +kernel), List.mem_of_getElem? (i := 1521) (by decide +kernel), List.mem_of_getElem? (i := 1522) (by decide +kernel)⟩
theorem lw_p60 : lw_okq (⟨"SearchKeeperModel", "score", "(III)I"⟩, 46) := ⟨⟨by decide +kernel, by decide +kernel⟩, List.mem_of_getElem? (i := 1100) (by decide +kernel), List.mem_of_getElem? (i := 1533) (by decide +kernel), List.mem_of_getElem? (i := 1534) (by decide +kernel)⟩
def lw_privs_4 : List (MethodName × Nat) := [(⟨"SearchKeeperModel", "isKnown", "(I)Z"⟩, 46), (⟨"SearchKeeperModel", "isWaiting", "(II)Z"⟩, 46), (⟨"SearchKeeperModel", "indexes", "()V"⟩, 46), (⟨"SearchKeeperModel", "count", "(IZ)I"⟩, 46), (⟨"SearchKeeperModel", "cleans", "(I)V"⟩, 46), (⟨"SearchKeeperModel", "takesPlace", "(I)V"⟩, 46), (⟨"SearchKeeperModel", "joins", "(I)V"⟩, 46), (⟨"SearchKeeperModel", "canAsk", "(IIII)Z"⟩, 46), (⟨"SearchKeeperModel", "areWords", "(II)Z"⟩, 46), (⟨"SearchKeeperModel", "isAnswer", "(IIIII)Z"⟩, 46), (⟨"SearchKeeperModel", "has", "(III)Z"⟩, 46), (⟨"SearchKeeperModel", "often", "(II)I"⟩, 46), (⟨"SearchKeeperModel", "score", "(III)I"⟩, 46)]
theorem lw_r4 : ∀ q ∈ lw_privs_4, lw_okq q := List.forall_mem_cons.mpr ⟨lw_p48, List.forall_mem_cons.mpr ⟨lw_p49, List.forall_mem_cons.mpr ⟨lw_p50, List.forall_mem_cons.mpr ⟨lw_p51, List.forall_mem_cons.mpr ⟨lw_p52, List.forall_mem_cons.mpr ⟨lw_p53, List.forall_mem_cons.mpr ⟨lw_p54, List.forall_mem_cons.mpr ⟨lw_p55, List.forall_mem_cons.mpr ⟨lw_p56, List.forall_mem_cons.mpr ⟨lw_p57, List.forall_mem_cons.mpr ⟨lw_p58, List.forall_mem_cons.mpr ⟨lw_p59, List.forall_mem_cons.mpr ⟨lw_p60, fun _ h => absurd h List.not_mem_nil⟩⟩⟩⟩⟩⟩⟩⟩⟩⟩⟩⟩⟩
def lw_privs : List (MethodName × Nat) := lw_privs_1 ++ (lw_privs_2 ++ (lw_privs_3 ++ (lw_privs_4)))
def lw_tbl : List Cond := k2_sels lw_privs ++ tables_1
theorem lw_privs_ok : ∀ q ∈ lw_privs, lw_okq q := by
  show ∀ q ∈ lw_privs_1 ++ (lw_privs_2 ++ (lw_privs_3 ++ (lw_privs_4))), lw_okq q
  exact List.forall_mem_append.mpr ⟨lw_r1, List.forall_mem_append.mpr ⟨lw_r2, List.forall_mem_append.mpr ⟨lw_r3, lw_r4⟩⟩⟩
-- ===== end of PART A; then your names; then what follows =====
/-! ===== BEGIN words of one list among another's, by their places ===== -/
theorem goodIn_r {big : List Cond} (ws : List Cond) (ps : List Nat) (hp : ws = ps.filterMap (fun i => big[i]?)) (h : ws.all goodWord = true) : GoodIn big ws := by
  intro w hw
  have h1 := List.all_eq_true.mp h w hw
  rw [hp] at hw
  obtain ⟨i, -, hi⟩ := List.mem_filterMap.mp hw
  have hm : w ∈ big := by first | exact List.mem_of_getElem? hi | exact List.getElem?_mem hi
  exact ⟨hm, good_of_word h1⟩
theorem goodIn_app {big a b : List Cond} (ha : GoodIn big a) (hb : GoodIn big b) : GoodIn big (a ++ b) := fun w h => (List.mem_append.mp h).elim (ha w) (hb w)
theorem goodIn_ca {big a b : List Cond} {c : Cond} (ha : GoodIn big (c :: a)) (hb : GoodIn big b) : GoodIn big (c :: (a ++ b)) := fun w h => (List.mem_cons.mp h).elim (fun e => ha w (List.mem_cons.mpr (Or.inl e))) (fun h => (List.mem_append.mp h).elim (fun h => ha w (List.mem_cons.mpr (Or.inr h))) (hb w))
theorem goodIn_sub {big ws : List Cond} (hm : ∀ w ∈ ws, w ∈ big) (h : ws.all goodWord = true) : GoodIn big ws := fun w hw => ⟨hm w hw, good_of_word (List.all_eq_true.mp h w hw)⟩
/-! ===== END ===== -/

/-! ===== BEGIN exceptions that leave a method, and their catching by the caller (launches without stack traces) ===== -/
section VXA
/-! The laws vx_back, vx_callV, vx_callS, vx_callSW, vx_throw0, vx_throwS follow proofs of the library, with one case more: JvmDerived/Free/Laws.lean (Back.of_free), Shelf42/LK1.lean (callV, callS), Shelf/KitTraced.lean (throwNew0V, throwNewS). -/
/-- where a method has thrown q: the class by its name, the cell, what was written, the world -/
def vx_T (XC : String → State → State → Prop) (st : State) (q : Addr) (t : State) (mc ms : Nat) (free : Addr → Prop) : Prop :=
  ∃ (E : String) (ce : Cell) (L : List Loc), XC E st t ∧ t.heap[q]? = some ce ∧ ce.vm = .none ∧ st.vm.findClass E = some ce.cls ∧ st.WarmedH t.vm ∧ st.sameButNew ({ t with vm := st.vm } : State) L mc ms ∧ ∀ z ∈ L, free z.base
def vx_Q (Qc : Array Value → State → Outcome → State → Prop) (XC : String → State → State → Prop) (mc ms : Nat) (free : Addr → Prop) : Array Value → State → Outcome → State → Prop := fun a st o t =>
  (Qc a st o t ∧ ∃ L, FrameEnd st o t L mc ms ∧ ∀ q ∈ L, free q.base) ∨ ∃ q, o = .threw q ∧ vx_T XC st q t mc ms free
/-- a callee that returns or throws -/
def vx_Met (l : Launch) (y : MethodName) (ws : List Cond) (rm : Room) (Pc : Array Value → State → Prop) (Qc : Array Value → State → Outcome → State → Prop) (XC : String → State → State → Prop) (mc ms : Nat) (free : Addr → Prop) : Prop :=
  MetFree l y (headSpec ws rm) Pc (fun _ _ _ _ _ => True) (vx_Q Qc XC mc ms free)
def vx_Post (XC : String → State → State → Prop) (mc ms : Nat) (free : Addr → Prop) : Pt → Array Value → Addr → Pt → Prop := fun A a q B =>
  ∃ (g : JFrame) (mk : MethodId) (t : State) (L : List Loc) (E : String) (ce : Cell), B.U.heap = t.heap ∧ B.U.vm = t.vm ∧ XC E (A.U.calling g mk a) t ∧ t.heap[q]? = some ce ∧ ce.vm = .none ∧ A.U.vm.findClass E = some ce.cls ∧ B.locs = A.locs ++ L ∧ (∀ z ∈ L, free z.base) ∧ B.cells = A.cells + mc ∧ B.slots = A.slots + ms
def vx_Back (l : Launch) (R : Room) (p : Program) (e : Env) (below : List Frame) (s : State) (sargs : Array Value) (y : MethodName) (len W9 : Nat)
    (Pre : Pt → Array Value → Prop) (Post : Pt → Array Value → Option Value → Pt → Prop) (PostX : Pt → Array Value → Addr → Pt → Prop) : Prop :=
  ∀ (m : MethodId) (meth : Method) (c : Code) (A : Pt) (g : JFrame) (ig : Instr) (mk : MethodId) (a : Array Value),
    Stand p l e R s m sargs below meth c A.U A.locs A.cells A.slots → g.method = m → g.locals.size = c.maxLocals → decode c.code g.pc = .ok (ig, len) →
    2 * g.monitorRoom + (g.stack.map fun v => v.category).sum ≤ W9 → A.U.methodNamed? y = some mk → Pre A a →
    (∃ (v : Option Value) (B : Pt), Stand p l e R s m sargs below meth c B.U B.locs B.cells B.slots ∧ Post A a v B ∧
      Steps p.tables e below (doInvoke e (A.U.setTop g) [] mk a).1 (B.U.setTop { g with pc := g.pc + len, stack := v.toList ++ g.stack })) ∨
    (∃ (q : Addr) (B : Pt), Stand p l e R s m sargs below meth c B.U B.locs B.cells B.slots ∧ PostX A a q B ∧
      Steps p.tables e below (doInvoke e (A.U.setTop g) [] mk a).1 ((B.U.setTop g).pushFrame (.throwing q)))
section Payer
variable {l : Launch} {R : Room} {p : Program} {e : Env} {below : List Frame} {s : State} {sargs : Array Value} {y : MethodName} {len W9 : Nat}
theorem vx_back {ws : List Cond} {rm : Room} {Pc : Array Value → State → Prop} {Qc : Array Value → State → Outcome → State → Prop} {XC : String → State → State → Prop} {mc ms : Nat} {free : Addr → Prop} {bytes : ByteArray} {maxL : Nat} {ret : Option FieldType}
    (hM : vx_Met l y ws rm Pc Qc XC mc ms free) (hblind : FrameBlind Pc) (hrc : rm.cells = mc) (hrs : rm.slots = ms)
    (hframes : rm.frames + 1 ≤ R.frames) (hlocals : W9 + (maxL + 11) + rm.locals ≤ R.locals)
    (hws : ∀ w ∈ ws, ∀ a' U, s.WarmedH U.vm → w.before a' U = true) (hcode : Cond.code y bytes maxL ret ∈ ws) (hinit : ∀ a' U, s.WarmedH U.vm → (Cond.initialized y.cls).before a' U = true) :
    vx_Back l R p e below s sargs y len W9 (PreOf R mc ms Pc) (PostOf Qc mc ms free) (vx_Post XC mc ms free) := by
  intro m meth c A g ig mk a X hg hsize hdg hW hn hp
  have h1 : (headSpec ws rm).pre.before a A.U = true := atoms_intro fun w hw => hws w hw _ _ X.warmed
  have h2 : (Cond.code y bytes maxL ret).before a A.U = true := hws _ hcode _ _ X.warmed
  have h3 : (Cond.initialized y.cls).before a A.U = true := hinit _ _ X.warmed
  have h4 : A.cells + (headSpec ws rm).room.cells ≤ R.cells := by rw [show (headSpec ws rm).room.cells = mc from hrc]; exact hp.1
  have h5 : A.slots + (headSpec ws rm).room.slots ≤ R.slots := by rw [show (headSpec ws rm).room.slots = ms from hrs]; exact hp.2.1
  have hPc : Pc a (A.U.calling g mk a) := hblind _ _ _ _ hp.2.2
  obtain ⟨U, Ls, c0, s0⟩ := A
  dsimp only [Pt.U, Pt.locs, Pt.cells, Pt.slots] at h1 h2 h3 h4 h5 X hn hPc ⊢
  obtain ⟨methY, cY, hmY, hcY, -, hlY, -, -, -, -⟩ := Cond.code_spec hn h2
  obtain ⟨kY, hkY, -⟩ := className_of_methodNamed hn
  have hinitY : kY.init = .initialized := Cond.initialized_spec (findClass_of_methodNamed hn) hkY h3
  have h : At U g.method c below := by rw [hg]; exact X.here
  have hlocals9 : W9 + (maxL + 11) + (headSpec ws rm).room.locals ≤ R.locals := hlocals
  have happ : (headSpec ws rm).appliesLoose y e.platform (U.calling g mk a) = true :=
    Spec.appliesLoose_calling (g := g) h hdg hn hkY hinitY
      (X.room_calling (g := g) (R' := (headSpec ws rm).room) hsize hmY hcY hframes (by rw [hlY]; omega) h4 h5) h1
  obtain ⟨mid, hmid⟩ := h.above
  have hfr : (U.setTop g).frames = (.java g :: mid) ++ below := by rw [State.frames_setTop' g h.top, hmid]; rfl
  obtain ⟨o, s₂, hsteps, -, hend, hq⟩ := Steps.callFree hM p X.admits X.cas X.clock (acts := []) hfr happ hPc trivial
  have hq' : vx_Q Qc XC mc ms free a (U.calling g mk a) o s₂ := hq
  rw [State.frames_setTop' g h.top] at hend
  obtain ⟨g₀, hg0⟩ := Option.isSome_iff_exists.mp h.top
  obtain ⟨r, hr⟩ := State.topJava?_eq_some.mp hg0
  have hr' : (({ U with heap := s₂.heap, slotsUsed := s₂.slotsUsed } : State).setVm s₂.vm).frames = .java g₀ :: r := hr
  rcases hq' with ⟨hqc, L, hfe, hL⟩ | ⟨q, rfl, E, ce, L, hx, hce, hcv, hcl, hW₂, hsm, hL⟩
  · obtain ⟨⟨v, rfl⟩, hW₂, e2, q2, q3, q4, q5, q6⟩ := id hfe
    have e3 : s₂ = ({ (U.calling g mk a).setFrames s₂.frames with heap := s₂.heap, slotsUsed := s₂.slotsUsed } : State).setVm s₂.vm := by
      have : s₂ = ({ s₂ with vm := (U.calling g mk a).vm } : State).setVm s₂.vm := rfl
      rw [e2] at this
      exact this
    obtain ⟨c₂, i₂, len₂, hc₂, hd₂, hf₂⟩ := hend
    have hW' : U.WarmedH s₂.vm := hW₂
    have hcc : c₂ = c := by
      have h1 : s₂.code? g.method = U.code? g.method := by
        rw [State.code?_eq, State.code?_eq, hW'.alike.method?]
      exact Option.some.inj (hc₂.symm.trans (h1.trans h.code))
    subst hcc
    have hlen : len₂ = len := by rw [hdg] at hd₂; cases hd₂; rfl
    subst hlen
    have hs₂ : s₂ = (({ U with heap := s₂.heap, slotsUsed := s₂.slotsUsed } : State).setVm s₂.vm).setTop { g with pc := g.pc + len₂, stack := v.toList ++ g.stack } := by
      refine e3.trans ?_
      rw [hf₂, State.calling_eq h.top, State.setFrames_setFrames, State.setTop_of_frames _ hr', hr]
      rfl
    have hsame : U.sameButNew ({ U with heap := s₂.heap, slotsUsed := s₂.slotsUsed } : State) L mc ms := by
      refine ⟨?_, q2, q3, q4, q5, q6⟩
      obtain ⟨t, ht, -⟩ := State.frames_cons hr
      show ({ U with heap := s₂.heap, slotsUsed := s₂.slotsUsed } : State) = { U.setFrames U.frames with heap := s₂.heap, slotsUsed := s₂.slotsUsed }
      rw [State.setFrames_self ht]
    subst hg
    refine Or.inl ⟨v, ⟨(({ U with heap := s₂.heap, slotsUsed := s₂.slotsUsed } : State).setVm s₂.vm), Ls ++ L, c0 + mc, s0 + ms⟩,
      ⟨X.admits, X.cas, X.clock, X.frames, X.room, X.hears, X.method, X.code, (X.here.setHeapUsed s₂.heap s₂.slotsUsed).setVm hW'.alike, X.tail, State.WarmedH.trans X.warmed hW', X.limits, X.bytes, X.same.trans (hsame.setVm s.vm)⟩,
      ⟨g, mk, s₂, L, rfl, rfl, hqc, rfl, hL, rfl, rfl⟩, ?_⟩
    show Steps p.tables e below _ ((({ U with heap := s₂.heap, slotsUsed := s₂.slotsUsed } : State).setVm s₂.vm).setTop { g with pc := g.pc + len₂, stack := v.toList ++ g.stack })
    rw [← hs₂]
    exact hsteps
  · obtain ⟨e2, q2, q3, q4, q5, q6⟩ := id hsm
    have e3 : s₂ = ({ (U.calling g mk a).setFrames s₂.frames with heap := s₂.heap, slotsUsed := s₂.slotsUsed } : State).setVm s₂.vm := by
      have : s₂ = ({ s₂ with vm := (U.calling g mk a).vm } : State).setVm s₂.vm := rfl
      rw [e2] at this
      exact this
    have hf₂ : s₂.frames = .throwing q :: .java g :: U.frames.tail := hend
    have hW' : U.WarmedH s₂.vm := hW₂
    have hs₂ : s₂ = ((({ U with heap := s₂.heap, slotsUsed := s₂.slotsUsed } : State).setVm s₂.vm).setTop g).pushFrame (.throwing q) := by
      refine e3.trans ?_
      rw [hf₂, State.calling_eq h.top, State.setFrames_setFrames, State.pushFrame, State.frames_setTop _ hr', State.setTop_of_frames _ hr', State.setFrames_setFrames, hr]
      rfl
    have hsame : U.sameButNew ({ U with heap := s₂.heap, slotsUsed := s₂.slotsUsed } : State) L mc ms := by
      refine ⟨?_, q2, q3, q4, q5, q6⟩
      obtain ⟨t, ht, -⟩ := State.frames_cons hr
      show ({ U with heap := s₂.heap, slotsUsed := s₂.slotsUsed } : State) = { U.setFrames U.frames with heap := s₂.heap, slotsUsed := s₂.slotsUsed }
      rw [State.setFrames_self ht]
    subst hg
    refine Or.inr ⟨q, ⟨(({ U with heap := s₂.heap, slotsUsed := s₂.slotsUsed } : State).setVm s₂.vm), Ls ++ L, c0 + mc, s0 + ms⟩,
      ⟨X.admits, X.cas, X.clock, X.frames, X.room, X.hears, X.method, X.code, (X.here.setHeapUsed s₂.heap s₂.slotsUsed).setVm hW'.alike, X.tail, State.WarmedH.trans X.warmed hW', X.limits, X.bytes, X.same.trans (hsame.setVm s.vm)⟩,
      ⟨g, mk, s₂, L, E, ce, rfl, rfl, hx, hce, hcv, hcl, rfl, hL, rfl, rfl⟩, ?_⟩
    show Steps p.tables e below _ (((({ U with heap := s₂.heap, slotsUsed := s₂.slotsUsed } : State).setVm s₂.vm).setTop g).pushFrame (.throwing q))
    rw [← hs₂]
    exact hsteps
end Payer
section Calls
variable {p : Program} {l : Launch} {e : Env} {R : Room} {s : State} {m : MethodId} {args : Array Value} {below : List Frame} {meth : Method} {c : Code} {T : State} {locs : List Loc} {cells slots : Nat}
theorem vx_callV (X : Stand p l e R s m args below meth c T locs cells slots) (hexec : p.tables.exec = Jvm.exec) {own C : String} {index : Nat} {y : MethodName} {bytes : ByteArray} {maxL : Nat} {ret : Option FieldType}
    (hown : s.vm.findClass own = some m.cls) (hlink : (Cond.methodLink own index y).before args s = true) (hinst : (Cond.instanceMethod y).before args s = true) (hsel : (Cond.selects C y y).before args s = true)
    (hcode : (Cond.code y bytes maxL ret).before args s = true) (hy : y.cls ≠ "java/lang/invoke/MethodHandle" ∧ y.cls ≠ "java/lang/invoke/VarHandle")
    {W9 : Nat} {Pre : Pt → Array Value → Prop} {Post : Pt → Array Value → Option Value → Pt → Prop} {PostX : Pt → Array Value → Addr → Pt → Prop} (hK : vx_Back l R p e below s args y 3 W9 Pre Post PostX)
    {b : Addr} {cellB : Cell} (hcell : T.heap[b]? = some cellB) (hobj : cellB.vm.isStatics = false) (hcls : s.vm.findClass C = some cellB.cls)
    {g : JFrame} (hg : g.method = m) (hsize : g.locals.size = c.maxLocals) {argsL rest : List Value} (hlen : ∀ sig, parseMethodDescriptor y.desc = some sig → argsL.length = sig.parameters.length)
    (hstack : g.stack = argsL.reverse ++ .ref b :: rest) (hW : 2 * g.monitorRoom + (rest.map fun v => v.category).sum ≤ W9) (hdg : decode c.code g.pc = .ok (.invokevirtual index, 3))
    (hpre : ∀ vm₁, s.WarmedH vm₁ → Pre ⟨T.setVm vm₁, locs, cells, slots⟩ (Value.ref b :: argsL).toArray) :
    (∃ (v : Option Value) (vm₁ : Vm) (B : Pt), s.WarmedH vm₁ ∧ Stand p l e R s m args below meth c B.U B.locs B.cells B.slots ∧ Post ⟨T.setVm vm₁, locs, cells, slots⟩ (Value.ref b :: argsL).toArray v B ∧
      ∀ target, Steps p.tables e below (B.U.setTop { g with pc := g.pc + 3, stack := v.toList ++ rest }) target → Steps p.tables e below (T.setTop g) target) ∨
    (∃ (q : Addr) (vm₁ : Vm) (B : Pt), s.WarmedH vm₁ ∧ Stand p l e R s m args below meth c B.U B.locs B.cells B.slots ∧ PostX ⟨T.setVm vm₁, locs, cells, slots⟩ (Value.ref b :: argsL).toArray q B ∧
      Steps p.tables e below (T.setTop g) ((B.U.setTop { g with stack := rest }).pushFrame (.throwing q))) := by
  obtain ⟨mk, methM, hnamed, hmethM, hstM, habM⟩ := Cond.instanceMethod_spec hinst
  obtain ⟨methM', cM, hmethM', -, -, -, -, -, -, hsigM⟩ := Cond.code_spec hnamed hcode
  cases hmethM.symm.trans hmethM'
  obtain ⟨c2, r2, m2, q1, q2, q3, q4, kP, hkP, hkPi⟩ := Cond.selects_spec hsel
  cases hcls.symm.trans q1
  cases (State.methodFound?_of_named hnamed hy).symm.trans q2
  cases hnamed.symm.trans q3
  have hselP : selectMethod e.platform s.vm cellB.cls mk = .method mk := by rw [Launch.admits_selectMethod X.admits]; exact q4
  obtain ⟨vm₁, X₁, hstep₁⟩ := X.invokevirtual hexec hown hlink hnamed hmethM hstM hkP hkPi hy (a := b) (cell := cellB) hcell
    (fun z h => by rw [h] at hobj; cases hobj) hselP hmethM habM hkP hkPi (g := g) hg (argsL := argsL) (rest := rest) (hlen _ hsigM) hstack hdg
  rcases hK m meth c ⟨T.setVm vm₁, locs, cells, slots⟩ { g with stack := rest } (.invokevirtual index) mk (Value.ref b :: argsL).toArray X₁ hg hsize hdg hW (X₁.named hnamed) (hpre vm₁ X₁.warmed) with ⟨v, B, X', hpost, hsteps⟩ | ⟨q, B, X', hpost, hsteps⟩
  · exact Or.inl ⟨v, vm₁, B, X₁.warmed, X', hpost, fun target h => hstep₁ _ fun acts => by rw [doInvoke_state]; exact hsteps.trans h⟩
  · exact Or.inr ⟨q, vm₁, B, X₁.warmed, X', hpost, hstep₁ _ fun acts => by rw [doInvoke_state]; exact hsteps⟩
theorem vx_callS (X : Stand p l e R s m args below meth c T locs cells slots) (hexec : p.tables.exec = Jvm.exec) {own : String} {index : Nat} {y : MethodName} {bytes : ByteArray} {maxL : Nat} {ret : Option FieldType}
    (hown : s.vm.findClass own = some m.cls) (hlink : (Cond.methodLink own index y).before args s = true) (hstat : (Cond.static y).before args s = true) (hinit : (Cond.initialized y.cls).before args s = true)
    (hcode : (Cond.code y bytes maxL ret).before args s = true) (hy : y.cls ≠ "java/lang/invoke/MethodHandle" ∧ y.cls ≠ "java/lang/invoke/VarHandle")
    {W9 : Nat} {Pre : Pt → Array Value → Prop} {Post : Pt → Array Value → Option Value → Pt → Prop} {PostX : Pt → Array Value → Addr → Pt → Prop} (hK : vx_Back l R p e below s args y 3 W9 Pre Post PostX)
    {g : JFrame} (hg : g.method = m) (hsize : g.locals.size = c.maxLocals) {argsL rest : List Value} (hlen : ∀ sig, parseMethodDescriptor y.desc = some sig → argsL.length = sig.parameters.length)
    (hstack : g.stack = argsL.reverse ++ rest) (hW : 2 * g.monitorRoom + (rest.map fun v => v.category).sum ≤ W9) (hdg : decode c.code g.pc = .ok (.invokestatic index, 3))
    (hpre : ∀ vm₁, s.WarmedH vm₁ → Pre ⟨T.setVm vm₁, locs, cells, slots⟩ argsL.toArray) :
    (∃ (v : Option Value) (vm₁ : Vm) (B : Pt), s.WarmedH vm₁ ∧ Stand p l e R s m args below meth c B.U B.locs B.cells B.slots ∧ Post ⟨T.setVm vm₁, locs, cells, slots⟩ argsL.toArray v B ∧
      ∀ target, Steps p.tables e below (B.U.setTop { g with pc := g.pc + 3, stack := v.toList ++ rest }) target → Steps p.tables e below (T.setTop g) target) ∨
    (∃ (q : Addr) (vm₁ : Vm) (B : Pt), s.WarmedH vm₁ ∧ Stand p l e R s m args below meth c B.U B.locs B.cells B.slots ∧ PostX ⟨T.setVm vm₁, locs, cells, slots⟩ argsL.toArray q B ∧
      Steps p.tables e below (T.setTop g) ((B.U.setTop { g with stack := rest }).pushFrame (.throwing q))) := by
  obtain ⟨mk, hnamed⟩ := Cond.code_named hcode
  obtain ⟨methM, cM, hmethM, -, -, -, -, -, -, hsigM⟩ := Cond.code_spec hnamed hcode
  have hstatic : methM.isStatic = true := Cond.static_spec hnamed hmethM hstat
  obtain ⟨kP, hkP, -⟩ := className_of_methodNamed hnamed
  have hinitP : kP.init = .initialized := Cond.initialized_spec (findClass_of_methodNamed hnamed) hkP hinit
  obtain ⟨vm₁, X₁, hstep₁⟩ := X.invokestatic hexec hown hlink hnamed hmethM hstatic hkP hinitP hy (g := g) hg (argsL := argsL) (rest := rest) (hlen _ hsigM) hstack hdg
  rcases hK m meth c ⟨T.setVm vm₁, locs, cells, slots⟩ { g with stack := rest } (.invokestatic index) mk argsL.toArray X₁ hg hsize hdg hW (X₁.named hnamed) (hpre vm₁ X₁.warmed) with ⟨v, B, X', hpost, hsteps⟩ | ⟨q, B, X', hpost, hsteps⟩
  · exact Or.inl ⟨v, vm₁, B, X₁.warmed, X', hpost, fun target h => hstep₁ _ fun acts => by rw [doInvoke_state]; exact hsteps.trans h⟩
  · exact Or.inr ⟨q, vm₁, B, X₁.warmed, X', hpost, hstep₁ _ fun acts => by rw [doInvoke_state]; exact hsteps⟩
end Calls
theorem vx_cls {s : State} {T : State} {vm₁ : Vm} {E : String} {k : ClassId} (hW : s.WarmedH vm₁) (h : (T.setVm vm₁).vm.findClass E = some k) : s.vm.findClass E = some k := by
  have h1 : vm₁.findClass E = some k := h
  rw [hW.alike.findClass] at h1
  exact h1
/-- the method's frame g, with q thrown over it -/
def vx_W (p : Program) (l : Launch) (e : Env) (R : Room) (s : State) (m : MethodId) (args : Array Value) (below : List Frame) (meth : Method) (c : Code) (H : Heap) (locs : List Loc) (cells slots : Nat) (Q : State → Prop) (g : JFrame) (q : Addr) : Prop :=
  ∀ T : State, T.heap = H → Stand p l e R s m args below meth c T locs cells slots → ∃ t, Steps p.tables e below ((T.setTop g).pushFrame (.throwing q)) t ∧ Q t
def vx_Run (p : Program) (l : Launch) (e : Env) (R : Room) (s : State) (m : MethodId) (args : Array Value) (below : List Frame) (meth : Method) (c : Code) (H : Heap) (locs : List Loc) (cells slots mc ms : Nat) (g : JFrame) (rest : List Value) (Qa : State → Outcome → State → Prop) (XC : String → State → State → Prop) (free : Addr → Prop) : Prop :=
  ∀ T : State, T.heap = H → Stand p l e R s m args below meth c T locs cells slots →
    (∃ (v : Option Value) (st₀ t T' : State) (L : List Loc), st₀.heap = H ∧ Stand p l e R s m args below meth c T' (locs ++ L) (cells + mc) (slots + ms) ∧ (∀ q ∈ L, free q.base) ∧ T'.heap = t.heap ∧ T'.vm = t.vm ∧ Qa st₀ (.returned v) t ∧
      Goes p e below T g T' { g with pc := g.pc + 3, stack := v.toList ++ rest }) ∨
    (∃ (q : Addr) (st₀ t T' : State) (L : List Loc) (E : String) (ce : Cell), st₀.heap = H ∧ Stand p l e R s m args below meth c T' (locs ++ L) (cells + mc) (slots + ms) ∧ (∀ z ∈ L, free z.base) ∧ T'.heap = t.heap ∧ T'.vm = t.vm ∧ XC E st₀ t ∧ t.heap[q]? = some ce ∧ ce.vm = .none ∧ s.vm.findClass E = some ce.cls ∧
      Steps p.tables e below (T.setTop g) ((T'.setTop { g with stack := rest }).pushFrame (.throwing q)))
def vx_X {S : Type} (px : S → Prop) (B : String → S → State → Prop) (A : Nat → Prop) : String → State → State → Prop := fun E st t => ∃ u : S, px u ∧ B E u t ∧ va_F A st t
section Runs
variable {p : Program} {l : Launch} {e : Env} {R : Room} {s : State} {m : MethodId} {args : Array Value} {below : List Frame} {meth : Method} {c : Code} {H : Heap} {locs : List Loc} {cells slots : Nat}
variable {y : MethodName} {bytes cc : ByteArray} {maxL nL mc ms n index : Nat} {ret : Option FieldType} {ws : List Cond} {rm : Room} {Pc : Array Value → State → Prop} {Qc : Array Value → State → Outcome → State → Prop} {XC : String → State → State → Prop} {free : Addr → Prop} {Ts : List Cond} {own C : String} {b : Addr} {As rest : List Value} {g : JFrame}
theorem vx_callBack (cb : CallB R s args own index y bytes maxL ret ws rm mc ms n) (hM : vx_Met l y ws rm Pc Qc XC mc ms free) (hbl : FrameBlind Pc) : vx_Back l R p e below s args y 3 8 (PreOf R mc ms Pc) (PostOf Qc mc ms free) (vx_Post XC mc ms free) := by
  obtain ⟨hrc, hrs, hfr, hlo, hws, hcw, -, hini, -⟩ := cb
  exact vx_back (bytes := bytes) (maxL := maxL) (ret := ret) hM hbl hrc hrs hfr hlo hws hcw (fun a' U hW => word_at hW (Or.inl (by first | rfl | simp [Cond.onTables, Cond.keeps, Cond.steady])) hini)
theorem vx_runV (S : CallFix p m c cc nL s args Ts own) (hM : vx_Met l y ws rm Pc Qc XC mc ms free) (cw : CallW R s args own C index y bytes maxL ret ws rm mc ms n) (hp : PreV s H C b Pc As)
    (hg : g.method = m) (hn : As.length = n) (hsize : g.locals.size = nL) (hstack : g.stack = As.reverse ++ .ref b :: rest) (hW : 2 * g.monitorRoom + (rest.map fun v => v.category).sum ≤ 8) (hdg : decode cc g.pc = .ok (.invokevirtual index, 3)) (hf : cells + mc ≤ R.cells ∧ slots + ms ≤ R.slots) :
    vx_Run p l e R s m args below meth c H locs cells slots mc ms g rest (Qc (Value.ref b :: As).toArray) XC free := by
  have hK : vx_Back l R p e below s args y 3 8 (PreOf R mc ms Pc) (PostOf Qc mc ms free) (vx_Post XC mc ms free) := vx_callBack cw.1 hM hp.1
  obtain ⟨⟨-, -, -, -, -, -, hcode, -, hy, hlen, hl⟩, hin, hse⟩ := cw
  obtain ⟨hx, hb, hml, ho, -⟩ := S
  obtain ⟨-, ⟨cellB, hcB, hoB, hclB⟩, hPc⟩ := hp
  intro T hT X
  rcases vx_callV X hx (C := C) (bytes := bytes) (maxL := maxL) (ret := ret) ho hl hin hse hcode hy hK (by rw [hT]; exact hcB) hoB hclB hg (hsize.trans hml.symm) (argsL := As) (rest := rest) (fun sig h => hn.trans (hlen sig h)) hstack hW (by rw [hb]; exact hdg)
    (fun vm₁ hW₁ => ⟨hf.1, hf.2, hPc (T.setVm vm₁) hT hW₁⟩) with ⟨v, vm₁, ⟨U', l2, c2, s2⟩, hW₁, X', ⟨g', mk, t, L, e1, e2, hq, h1, hL, h2, h3⟩, st⟩ | ⟨q, vm₁, ⟨U', l2, c2, s2⟩, hW₁, X', ⟨g', mk, t, L, E, ce, e1, e2, hq, hce, hcv, hcl, h1, hL, h2, h3⟩, st⟩
  · dsimp only [Pt.U, Pt.locs, Pt.cells, Pt.slots] at X' e1 e2 h1 h2 h3 st
    subst h1; subst h2; subst h3
    exact Or.inl ⟨v, (T.setVm vm₁).calling g' mk (Value.ref b :: As).toArray, t, U', L, hT, X', hL, e1, e2, hq, st⟩
  · dsimp only [Pt.U, Pt.locs, Pt.cells, Pt.slots] at X' e1 e2 h1 h2 h3 st hcl
    subst h1; subst h2; subst h3
    exact Or.inr ⟨q, (T.setVm vm₁).calling g' mk (Value.ref b :: As).toArray, t, U', L, E, ce, hT, X', hL, e1, e2, hq, hce, hcv, vx_cls hW₁ hcl, st⟩
theorem vx_runS (S : CallFix p m c cc nL s args Ts own) (hM : vx_Met l y ws rm Pc Qc XC mc ms free) (cw : CallB R s args own index y bytes maxL ret ws rm mc ms n ∧ (Cond.static y).before args s = true) (hp : PreS s H Pc As)
    (hg : g.method = m) (hn : As.length = n) (hsize : g.locals.size = nL) (hstack : g.stack = As.reverse ++ rest) (hW : 2 * g.monitorRoom + (rest.map fun v => v.category).sum ≤ 8) (hdg : decode cc g.pc = .ok (.invokestatic index, 3)) (hf : cells + mc ≤ R.cells ∧ slots + ms ≤ R.slots) :
    vx_Run p l e R s m args below meth c H locs cells slots mc ms g rest (Qc As.toArray) XC free := by
  have hK : vx_Back l R p e below s args y 3 8 (PreOf R mc ms Pc) (PostOf Qc mc ms free) (vx_Post XC mc ms free) := vx_callBack cw.1 hM hp.1
  obtain ⟨⟨-, -, -, -, -, -, hcode, hini, hy, hlen, hl⟩, hstt⟩ := cw
  obtain ⟨hx, hb, hml, ho, -⟩ := S
  intro T hT X
  rcases vx_callS X hx (bytes := bytes) (maxL := maxL) (ret := ret) ho hl hstt hini hcode hy hK hg (hsize.trans hml.symm) (argsL := As) (rest := rest) (fun sig h => hn.trans (hlen sig h)) hstack hW (by rw [hb]; exact hdg)
    (fun vm₁ hW₁ => ⟨hf.1, hf.2, hp.2 (T.setVm vm₁) hT hW₁⟩) with ⟨v, vm₁, ⟨U', l2, c2, s2⟩, hW₁, X', ⟨g', mk, t, L, e1, e2, hq, h1, hL, h2, h3⟩, st⟩ | ⟨q, vm₁, ⟨U', l2, c2, s2⟩, hW₁, X', ⟨g', mk, t, L, E, ce, e1, e2, hq, hce, hcv, hcl, h1, hL, h2, h3⟩, st⟩
  · dsimp only [Pt.U, Pt.locs, Pt.cells, Pt.slots] at X' e1 e2 h1 h2 h3 st
    subst h1; subst h2; subst h3
    exact Or.inl ⟨v, (T.setVm vm₁).calling g' mk As.toArray, t, U', L, hT, X', hL, e1, e2, hq, st⟩
  · dsimp only [Pt.U, Pt.locs, Pt.cells, Pt.slots] at X' e1 e2 h1 h2 h3 st hcl
    subst h1; subst h2; subst h3
    exact Or.inr ⟨q, (T.setVm vm₁).calling g' mk As.toArray, t, U', L, E, ce, hT, X', hL, e1, e2, hq, hce, hcv, vx_cls hW₁ hcl, st⟩
end Runs
section Rows
variable {p : Program} {l : Launch} {e : Env} {R : Room} {s : State} {m : MethodId} {args : Array Value} {below : List Frame} {meth : Method} {c : Code} {H : Heap} {locs : List Loc} {cells slots : Nat} {Q : State → Prop}
variable {mc ms : Nat} {free : Addr → Prop} {A0 A1 : Nat → Prop} {H0 : Heap} {a : Array Value} {pc : Nat} {ls : Array Slot} {st0 rest : List Value}
theorem vx_keep {st₀ t T' : State} {L : List Loc} (h0 : st₀.heap = H) (e1 : T'.heap = t.heap) (hS : va_S A0 H0 H locs) (hA : ∀ q, q < H.size → A1 q → A0 q) (hf : ∀ q, free q → A0 q) (hL : ∀ q ∈ L, free q.base) (hF : va_F A1 st₀ t) :
    H.size ≤ T'.heap.size ∧ (∀ q : Nat, q < H.size → ¬ A1 q → T'.heap[q]? = H[q]?) ∧ va_S A0 H0 T'.heap (locs ++ L) := by
  obtain ⟨hz, hk⟩ := hF
  rw [h0] at hz hk
  exact ⟨by rw [e1]; exact hz, fun q h1 h2 => by rw [e1]; exact hk q h1 h2,
    ⟨Nat.le_trans hS.1 (by rw [e1]; exact hz), fun q h1 h2 => by rw [e1, hk q (Nat.lt_of_lt_of_le h1 hS.1) (fun z => h2 (hA q (Nat.lt_of_lt_of_le h1 hS.1) z))]; exact hS.2.1 q h1 h2, fun q hq => by
      rcases List.mem_append.mp hq with h | h
      · exact hS.2.2 q h
      · exact hf _ (hL q h)⟩⟩
theorem vx_calli {S SX : Type} {post : Int32 → S → Prop} {px : SX → Prop} {B : S → State → Prop} {BX : String → SX → State → Prop} {AX : Nat → Prop} (hr : vx_Run p l e R s m args below meth c H locs cells slots mc ms (F0 m pc ls st0) rest (va_Qi post B A1 a) (vx_X px BX AX) free) (hS : va_S A0 H0 H locs) (hA : ∀ q, q < H.size → A1 q → A0 q) (hf : ∀ q, free q → A0 q) (hAX : ∀ q, q < H.size → AX q → A0 q)
    (kx : ∀ (E : String) (ce : Cell) (q9 : Addr) (u : SX) (t : State) (H1 : Heap) (locs1 : List Loc), t.heap = H1 → s.vm.Alike t.vm → px u → BX E u t → H.size ≤ H1.size → (∀ q : Nat, q < H.size → ¬ AX q → H1[q]? = H[q]?) → va_S A0 H0 H1 locs1 → H1[q9]? = some ce → ce.vm = .none → s.vm.findClass E = some ce.cls → vx_W p l e R s m args below meth c H1 locs1 (cells + mc) (slots + ms) Q (F0 m pc ls rest) q9)
    (kk : ∀ (r : Int32) (u : S) (t : State) (H1 : Heap) (locs1 : List Loc), t.heap = H1 → s.vm.Alike t.vm → post r u → B u t → H.size ≤ H1.size → (∀ q : Nat, q < H.size → ¬ A1 q → H1[q]? = H[q]?) → va_S A0 H0 H1 locs1 → W p l e R s m args below meth c H1 locs1 (cells + mc) (slots + ms) Q (F0 m (pc + 3) ls (.int r :: rest))) : W p l e R s m args below meth c H locs cells slots Q (F0 m pc ls st0) := by
  intro T hT X
  rcases hr T hT X with ⟨v, st₀, t, T', L, h0, X', hL, e1, e2, ⟨⟨r, u, hv, hp, hb⟩, hF⟩, st⟩ | ⟨q, st₀, t, T', L, E, ce, h0, X', hL, e1, e2, ⟨u, hp, hb, hF⟩, hce, hcv, hcl, st⟩
  · cases hv
    obtain ⟨k1, k2, k3⟩ := vx_keep h0 e1 hS hA hf hL hF
    obtain ⟨t2, a1, b1⟩ := kk r u t T'.heap (locs ++ L) e1.symm (by rw [← e2]; exact X'.warmed.alike) hp hb k1 k2 k3 T' rfl X'
    exact ⟨t2, st t2 a1, b1⟩
  · obtain ⟨k1, k2, k3⟩ := vx_keep h0 e1 hS hAX hf hL hF
    obtain ⟨t2, a1, b1⟩ := kx E ce q u t T'.heap (locs ++ L) e1.symm (by rw [← e2]; exact X'.warmed.alike) hp hb k1 k2 k3 (by rw [e1]; exact hce) hcv hcl T' rfl X'
    exact ⟨t2, st.trans a1, b1⟩
theorem vx_calll {S SX : Type} {post : Int64 → S → Prop} {px : SX → Prop} {B : S → State → Prop} {BX : String → SX → State → Prop} {AX : Nat → Prop} (hr : vx_Run p l e R s m args below meth c H locs cells slots mc ms (F0 m pc ls st0) rest (va_Ql post B A1 a) (vx_X px BX AX) free) (hS : va_S A0 H0 H locs) (hA : ∀ q, q < H.size → A1 q → A0 q) (hf : ∀ q, free q → A0 q) (hAX : ∀ q, q < H.size → AX q → A0 q)
    (kx : ∀ (E : String) (ce : Cell) (q9 : Addr) (u : SX) (t : State) (H1 : Heap) (locs1 : List Loc), t.heap = H1 → s.vm.Alike t.vm → px u → BX E u t → H.size ≤ H1.size → (∀ q : Nat, q < H.size → ¬ AX q → H1[q]? = H[q]?) → va_S A0 H0 H1 locs1 → H1[q9]? = some ce → ce.vm = .none → s.vm.findClass E = some ce.cls → vx_W p l e R s m args below meth c H1 locs1 (cells + mc) (slots + ms) Q (F0 m pc ls rest) q9)
    (kk : ∀ (r : Int64) (u : S) (t : State) (H1 : Heap) (locs1 : List Loc), t.heap = H1 → s.vm.Alike t.vm → post r u → B u t → H.size ≤ H1.size → (∀ q : Nat, q < H.size → ¬ A1 q → H1[q]? = H[q]?) → va_S A0 H0 H1 locs1 → W p l e R s m args below meth c H1 locs1 (cells + mc) (slots + ms) Q (F0 m (pc + 3) ls (.long r :: rest))) : W p l e R s m args below meth c H locs cells slots Q (F0 m pc ls st0) := by
  intro T hT X
  rcases hr T hT X with ⟨v, st₀, t, T', L, h0, X', hL, e1, e2, ⟨⟨r, u, hv, hp, hb⟩, hF⟩, st⟩ | ⟨q, st₀, t, T', L, E, ce, h0, X', hL, e1, e2, ⟨u, hp, hb, hF⟩, hce, hcv, hcl, st⟩
  · cases hv
    obtain ⟨k1, k2, k3⟩ := vx_keep h0 e1 hS hA hf hL hF
    obtain ⟨t2, a1, b1⟩ := kk r u t T'.heap (locs ++ L) e1.symm (by rw [← e2]; exact X'.warmed.alike) hp hb k1 k2 k3 T' rfl X'
    exact ⟨t2, st t2 a1, b1⟩
  · obtain ⟨k1, k2, k3⟩ := vx_keep h0 e1 hS hAX hf hL hF
    obtain ⟨t2, a1, b1⟩ := kx E ce q u t T'.heap (locs ++ L) e1.symm (by rw [← e2]; exact X'.warmed.alike) hp hb k1 k2 k3 (by rw [e1]; exact hce) hcv hcl T' rfl X'
    exact ⟨t2, st.trans a1, b1⟩
theorem vx_callf {S SX : Type} {post : UInt32 → S → Prop} {px : SX → Prop} {B : S → State → Prop} {BX : String → SX → State → Prop} {AX : Nat → Prop} (hr : vx_Run p l e R s m args below meth c H locs cells slots mc ms (F0 m pc ls st0) rest (va_Qf post B A1 a) (vx_X px BX AX) free) (hS : va_S A0 H0 H locs) (hA : ∀ q, q < H.size → A1 q → A0 q) (hf : ∀ q, free q → A0 q) (hAX : ∀ q, q < H.size → AX q → A0 q)
    (kx : ∀ (E : String) (ce : Cell) (q9 : Addr) (u : SX) (t : State) (H1 : Heap) (locs1 : List Loc), t.heap = H1 → s.vm.Alike t.vm → px u → BX E u t → H.size ≤ H1.size → (∀ q : Nat, q < H.size → ¬ AX q → H1[q]? = H[q]?) → va_S A0 H0 H1 locs1 → H1[q9]? = some ce → ce.vm = .none → s.vm.findClass E = some ce.cls → vx_W p l e R s m args below meth c H1 locs1 (cells + mc) (slots + ms) Q (F0 m pc ls rest) q9)
    (kk : ∀ (r : UInt32) (u : S) (t : State) (H1 : Heap) (locs1 : List Loc), t.heap = H1 → s.vm.Alike t.vm → post r u → B u t → H.size ≤ H1.size → (∀ q : Nat, q < H.size → ¬ A1 q → H1[q]? = H[q]?) → va_S A0 H0 H1 locs1 → W p l e R s m args below meth c H1 locs1 (cells + mc) (slots + ms) Q (F0 m (pc + 3) ls (.float r :: rest))) : W p l e R s m args below meth c H locs cells slots Q (F0 m pc ls st0) := by
  intro T hT X
  rcases hr T hT X with ⟨v, st₀, t, T', L, h0, X', hL, e1, e2, ⟨⟨r, u, hv, hp, hb⟩, hF⟩, st⟩ | ⟨q, st₀, t, T', L, E, ce, h0, X', hL, e1, e2, ⟨u, hp, hb, hF⟩, hce, hcv, hcl, st⟩
  · cases hv
    obtain ⟨k1, k2, k3⟩ := vx_keep h0 e1 hS hA hf hL hF
    obtain ⟨t2, a1, b1⟩ := kk r u t T'.heap (locs ++ L) e1.symm (by rw [← e2]; exact X'.warmed.alike) hp hb k1 k2 k3 T' rfl X'
    exact ⟨t2, st t2 a1, b1⟩
  · obtain ⟨k1, k2, k3⟩ := vx_keep h0 e1 hS hAX hf hL hF
    obtain ⟨t2, a1, b1⟩ := kx E ce q u t T'.heap (locs ++ L) e1.symm (by rw [← e2]; exact X'.warmed.alike) hp hb k1 k2 k3 (by rw [e1]; exact hce) hcv hcl T' rfl X'
    exact ⟨t2, st.trans a1, b1⟩
theorem vx_calld {S SX : Type} {post : UInt64 → S → Prop} {px : SX → Prop} {B : S → State → Prop} {BX : String → SX → State → Prop} {AX : Nat → Prop} (hr : vx_Run p l e R s m args below meth c H locs cells slots mc ms (F0 m pc ls st0) rest (va_Qd post B A1 a) (vx_X px BX AX) free) (hS : va_S A0 H0 H locs) (hA : ∀ q, q < H.size → A1 q → A0 q) (hf : ∀ q, free q → A0 q) (hAX : ∀ q, q < H.size → AX q → A0 q)
    (kx : ∀ (E : String) (ce : Cell) (q9 : Addr) (u : SX) (t : State) (H1 : Heap) (locs1 : List Loc), t.heap = H1 → s.vm.Alike t.vm → px u → BX E u t → H.size ≤ H1.size → (∀ q : Nat, q < H.size → ¬ AX q → H1[q]? = H[q]?) → va_S A0 H0 H1 locs1 → H1[q9]? = some ce → ce.vm = .none → s.vm.findClass E = some ce.cls → vx_W p l e R s m args below meth c H1 locs1 (cells + mc) (slots + ms) Q (F0 m pc ls rest) q9)
    (kk : ∀ (r : UInt64) (u : S) (t : State) (H1 : Heap) (locs1 : List Loc), t.heap = H1 → s.vm.Alike t.vm → post r u → B u t → H.size ≤ H1.size → (∀ q : Nat, q < H.size → ¬ A1 q → H1[q]? = H[q]?) → va_S A0 H0 H1 locs1 → W p l e R s m args below meth c H1 locs1 (cells + mc) (slots + ms) Q (F0 m (pc + 3) ls (.double r :: rest))) : W p l e R s m args below meth c H locs cells slots Q (F0 m pc ls st0) := by
  intro T hT X
  rcases hr T hT X with ⟨v, st₀, t, T', L, h0, X', hL, e1, e2, ⟨⟨r, u, hv, hp, hb⟩, hF⟩, st⟩ | ⟨q, st₀, t, T', L, E, ce, h0, X', hL, e1, e2, ⟨u, hp, hb, hF⟩, hce, hcv, hcl, st⟩
  · cases hv
    obtain ⟨k1, k2, k3⟩ := vx_keep h0 e1 hS hA hf hL hF
    obtain ⟨t2, a1, b1⟩ := kk r u t T'.heap (locs ++ L) e1.symm (by rw [← e2]; exact X'.warmed.alike) hp hb k1 k2 k3 T' rfl X'
    exact ⟨t2, st t2 a1, b1⟩
  · obtain ⟨k1, k2, k3⟩ := vx_keep h0 e1 hS hAX hf hL hF
    obtain ⟨t2, a1, b1⟩ := kx E ce q u t T'.heap (locs ++ L) e1.symm (by rw [← e2]; exact X'.warmed.alike) hp hb k1 k2 k3 (by rw [e1]; exact hce) hcv hcl T' rfl X'
    exact ⟨t2, st.trans a1, b1⟩
theorem vx_callv {S SX : Type} {post : S → Prop} {px : SX → Prop} {B : S → State → Prop} {BX : String → SX → State → Prop} {AX : Nat → Prop} (hr : vx_Run p l e R s m args below meth c H locs cells slots mc ms (F0 m pc ls st0) rest (va_Qv post B A1 a) (vx_X px BX AX) free) (hS : va_S A0 H0 H locs) (hA : ∀ q, q < H.size → A1 q → A0 q) (hf : ∀ q, free q → A0 q) (hAX : ∀ q, q < H.size → AX q → A0 q)
    (kx : ∀ (E : String) (ce : Cell) (q9 : Addr) (u : SX) (t : State) (H1 : Heap) (locs1 : List Loc), t.heap = H1 → s.vm.Alike t.vm → px u → BX E u t → H.size ≤ H1.size → (∀ q : Nat, q < H.size → ¬ AX q → H1[q]? = H[q]?) → va_S A0 H0 H1 locs1 → H1[q9]? = some ce → ce.vm = .none → s.vm.findClass E = some ce.cls → vx_W p l e R s m args below meth c H1 locs1 (cells + mc) (slots + ms) Q (F0 m pc ls rest) q9)
    (kk : ∀ (u : S) (t : State) (H1 : Heap) (locs1 : List Loc), t.heap = H1 → s.vm.Alike t.vm → post u → B u t → H.size ≤ H1.size → (∀ q : Nat, q < H.size → ¬ A1 q → H1[q]? = H[q]?) → va_S A0 H0 H1 locs1 → W p l e R s m args below meth c H1 locs1 (cells + mc) (slots + ms) Q (F0 m (pc + 3) ls (rest))) : W p l e R s m args below meth c H locs cells slots Q (F0 m pc ls st0) := by
  intro T hT X
  rcases hr T hT X with ⟨v, st₀, t, T', L, h0, X', hL, e1, e2, ⟨⟨u, hv, hp, hb⟩, hF⟩, st⟩ | ⟨q, st₀, t, T', L, E, ce, h0, X', hL, e1, e2, ⟨u, hp, hb, hF⟩, hce, hcv, hcl, st⟩
  · cases hv
    obtain ⟨k1, k2, k3⟩ := vx_keep h0 e1 hS hA hf hL hF
    obtain ⟨t2, a1, b1⟩ := kk u t T'.heap (locs ++ L) e1.symm (by rw [← e2]; exact X'.warmed.alike) hp hb k1 k2 k3 T' rfl X'
    exact ⟨t2, st t2 a1, b1⟩
  · obtain ⟨k1, k2, k3⟩ := vx_keep h0 e1 hS hAX hf hL hF
    obtain ⟨t2, a1, b1⟩ := kx E ce q u t T'.heap (locs ++ L) e1.symm (by rw [← e2]; exact X'.warmed.alike) hp hb k1 k2 k3 (by rw [e1]; exact hce) hcv hcl T' rfl X'
    exact ⟨t2, st.trans a1, b1⟩
/-- caught by the row x of this method's table; the rows ahead don't take it -/
theorem vx_catch {own name : String} {E : String} {ce : Cell} {q : Addr} (hown : s.vm.findClass own = some m.cls) (pre : List ExceptionTableEntry) (x : ExceptionTableEntry) (suf : List ExceptionTableEntry) (hsplit : c.exceptionTable.toList = pre ++ x :: suf)
    (hpass : ∀ z ∈ pre, covers z pc = false ∨ (z.catchType ≠ 0 ∧ ∃ nm : String, (Cond.classLink own z.catchType nm).before args s = true ∧ va_Nc E nm s)) (hx : covers x pc = true) (h0 : x.catchType ≠ 0)
    (hlink : (Cond.classLink own x.catchType name).before args s = true) (hcast : (Cond.castable E name).before args s = true) (hcell : H[q]? = some ce) (hv : ce.vm = .none) (hcl : s.vm.findClass E = some ce.cls)
    (kk : W p l e R s m args below meth c H locs cells slots Q (F0 m x.handlerPc ls [.ref q])) : vx_W p l e R s m args below meth c H locs cells slots Q (F0 m pc ls rest) q := by
  intro T hT X
  have hpl : e.platform.magicAccessors = ({} : Platform).magicAccessors := by rw [X.admits.platform]
  obtain ⟨c3, c4, hc3, hc4, hasg⟩ := Cond.castable_spec hcast
  cases Option.some.inj (hc3.symm.trans hcl)
  obtain ⟨c5, hc5, hcl5⟩ := Cond.classLink_spec hown hlink e.platform hpl
  cases Option.some.inj (hc4.symm.trans hc5)
  obtain ⟨vm', X', st⟩ := X.thenCaughtThrough q (g := F0 m pc ls rest) rfl (Steps.refl _) (by rw [hT]; exact hcell) (by rw [hv]; rfl) (by obtain ⟨k9, h9, -⟩ := Vm.findClass_spec hcl; exact ⟨k9, h9⟩) pre x suf hsplit
    (fun z hz => by
      rcases hpass z hz with h | ⟨hz0, nm, hl1, hn1⟩
      · exact Or.inl h
      · obtain ⟨c6, hc6, hcl6⟩ := Cond.classLink_spec hown hl1 e.platform hpl
        obtain ⟨a8, b8, h1, h2, h3⟩ := hn1
        cases Option.some.inj (h1.symm.trans hcl)
        cases Option.some.inj (h2.symm.trans hc6)
        exact Or.inr ⟨hz0, _, hcl6, h3⟩) hx (Or.inr ⟨h0, c4, hcl5, hasg⟩)
  obtain ⟨t, a1, b1⟩ := kk (T.setVm vm') hT X'
  exact ⟨t, st.trans a1, b1⟩
end Rows
section Ends
variable {p : Program} {l : Launch} {e : Env} {R : Room} {s : State} {m : MethodId} {args : Array Value} {below : List Frame} {meth : Method} {c : Code} {H : Heap} {locs : List Loc} {cells slots : Nat} {Q : State → Prop}
variable {mc ms : Nat} {free : Addr → Prop} {A0 A1 : Nat → Prop} {H0 : Heap} {a : Array Value} {ls : Array Slot} {st0 rest : List Value}
variable {Qc : Array Value → State → Outcome → State → Prop} {XC : String → State → State → Prop}
/-- what a body that may throw owes at its end -/
def vx_MQ (below : List Frame) (Qc : Array Value → State → Outcome → State → Prop) (XC : String → State → State → Prop) (a : Array Value) (s : State) (mc ms : Nat) (free : Addr → Prop) : State → Prop := fun t =>
  ∃ o, t.status = .running ∧ Ended t below o ∧ vx_Q Qc XC mc ms free a s o t
theorem vx_ret {g : JFrame} {mc ms : Nat} (k : W p l e R s m args below meth c H locs cells slots (MQ below Qc args s mc ms free) g) : W p l e R s m args below meth c H locs cells slots (vx_MQ below Qc XC args s mc ms free) g := by
  intro T hT X
  obtain ⟨t, a1, o, b1, b2, b3, b4⟩ := k T hT X
  exact ⟨t, a1, o, b1, b2, Or.inl ⟨b3, b4⟩⟩
/-- not caught here: it goes on to the caller -/
theorem vx_widen {g : JFrame} {q : Addr} {k n : Nat} (h1 : cells ≤ k) (h2 : slots ≤ n) (kk : vx_W p l e R s m args below meth c H locs k n Q g q) : vx_W p l e R s m args below meth c H locs cells slots Q g q := fun T hT X => kk T hT (stand_widen X h1 h2)
theorem vx_out {pc : Nat} {E : String} {ce : Cell} {q : Addr} {mc ms : Nat} (hout : ∀ x ∈ c.exceptionTable.toList, covers x pc = false) (hlocks : meth.locks = false) (hcell : H[q]? = some ce) (hv : ce.vm = .none) (hcl : s.vm.findClass E = some ce.cls)
    (hx : ∀ t : State, t.heap = H → s.vm.Alike t.vm → XC E s t) (hf : ∀ z ∈ locs, free z.base) (hc : cells ≤ mc) (hs : slots ≤ ms) :
    vx_W p l e R s m args below meth c H locs cells slots (vx_MQ below Qc XC args s mc ms free) (F0 m pc ls rest) q := by
  intro T hT X
  obtain ⟨st1, hrun, hend, hW, hsm⟩ := X.leaveThrown q (g := F0 m pc ls rest) rfl rfl rfl hout hlocks
  have hcell9 : (T.setFrames (.throwing q :: below)).heap[q]? = some ce := by
    show T.heap[q]? = some ce
    rw [hT]; exact hcell
  exact ⟨_, st1, .threw q, hrun, hend, Or.inr ⟨q, rfl, E, ce, locs, hx _ hT hW.alike, hcell9, hv, hcl, hW, hsm.mono hc hs, hf⟩⟩
theorem vx_frame {U : State} {k n : Nat} (h : s.sameButNew ({ U with vm := s.vm } : State) locs k n) : s.heap.size ≤ U.heap.size ∧ ∀ q : Nat, q < s.heap.size → (∀ z ∈ locs, z.base ≠ q) → U.heap[q]? = s.heap[q]? := by
  obtain ⟨-, h2, -, -, -, h6⟩ := h
  refine ⟨h2, fun q hq hz => ?_⟩
  obtain ⟨c9, e1, e2, e3, e4⟩ := h6 q _ (Array.getElem?_eq_getElem hq)
  have hs : c9.slots = (s.heap[q]).slots := Array.ext_getElem? fun i => e4 i fun hm => hz _ hm rfl
  have h9 : c9 = s.heap[q] := by
    rw [hs] at e2
    exact e2
  have e5 : U.heap[q]? = some c9 := e1
  rw [e5, h9, Array.getElem?_eq_getElem hq]
/-- the words of a throw but the four that speak of the heap -/
def vx_no (w : Cond) : Bool := decide (w ≠ .isRef (.static Bundle.tN "UNASSIGNED_STACK" Bundle.steD)) && decide (w ≠ .isRef (.static Bundle.tN "SUPPRESSED_SENTINEL" Bundle.listD)) && decide (w ≠ .laysStatic Bundle.tN "UNASSIGNED_STACK" Bundle.steD) && decide (w ≠ .laysStatic Bundle.tN "SUPPRESSED_SENTINEL" Bundle.listD)
def vx_at0 (own : String) (ic : Nat) (X : String) (names : List String) : List Cond := (Bundle.ownAtoms0 own ic X names).filter vx_no
def vx_atS (own : String) (ic : Nat) (X : String) (names : List String) : List Cond := (Bundle.ownAtoms own ic X names).filter vx_no
/-- a word that the tables alone decide, or a good one -/
def vx_ot (w : Cond) : Bool := w.onTables || goodWord w
theorem vx_ot_at {args a' : Array Value} {s U : State} {w : Cond} (hW : s.WarmedH U.vm) (hvm : s.vm = U.vm) (hg : vx_ot w = true) (h : w.before args s = true) : w.before a' U = true := by
  simp only [vx_ot, Bool.or_eq_true] at hg
  rcases hg with hg | hg
  · exact va_tabs hg hvm h
  · exact word_at hW (good_of_word hg) h
/-- a list's words: the good ones out of the method's own list, the others by premises of their own -/
theorem vx_hat {args : Array Value} {s : State} {L B : List Cond} (h1 : ∀ w ∈ L.filter goodWord, w.before args s = true) (h2 : ∀ w ∈ L.filter (fun w => !goodWord w), w ∈ B) (h3 : ∀ w ∈ B, w.before args s = true) : ∀ w ∈ L, w.before args s = true := by
  intro w hw
  by_cases g : goodWord w = true
  · exact h1 w (List.mem_filter.mpr ⟨hw, g⟩)
  · refine h3 w (h2 w (List.mem_filter.mpr ⟨hw, ?_⟩))
    show (!goodWord w) = true
    cases hgw : goodWord w
    · rfl
    · exact absurd hgw g
theorem vx_c {args : Array Value} {s : State} {w : Cond} {B : List Cond} (h : w.before args s = true) (t : ∀ w ∈ B, w.before args s = true) : ∀ w' ∈ w :: B, w'.before args s = true := fun w' h' => (List.mem_cons.mp h').elim (fun e => by rw [e]; exact h) (t w')
theorem vx_n {args : Array Value} {s : State} : ∀ w ∈ ([] : List Cond), w.before args s = true := fun _ h => nomatch h
theorem vx_own {args : Array Value} {s : State} {L : List Cond} (h1 : ∀ w ∈ L.filter vx_no, w.before args s = true)
    (hU : (Cond.isRef (.static Bundle.tN "UNASSIGNED_STACK" Bundle.steD)).before args s = true) (hN : (Cond.isRef (.static Bundle.tN "SUPPRESSED_SENTINEL" Bundle.listD)).before args s = true)
    (lU : (Cond.laysStatic Bundle.tN "UNASSIGNED_STACK" Bundle.steD).before args s = true) (lN : (Cond.laysStatic Bundle.tN "SUPPRESSED_SENTINEL" Bundle.listD).before args s = true) : ∀ w ∈ L, w.before args s = true := by
  intro w hw
  by_cases e1 : w = .isRef (.static Bundle.tN "UNASSIGNED_STACK" Bundle.steD)
  · rw [e1]; exact hU
  · by_cases e2 : w = .isRef (.static Bundle.tN "SUPPRESSED_SENTINEL" Bundle.listD)
    · rw [e2]; exact hN
    · by_cases e3 : w = .laysStatic Bundle.tN "UNASSIGNED_STACK" Bundle.steD
      · rw [e3]; exact lU
      · by_cases e4 : w = .laysStatic Bundle.tN "SUPPRESSED_SENTINEL" Bundle.listD
        · rw [e4]; exact lN
        · exact h1 w (List.mem_filter.mpr ⟨hw, by unfold vx_no; rw [decide_eq_true e1, decide_eq_true e2, decide_eq_true e3, decide_eq_true e4]; rfl⟩)
/-- where a static field lies, its class's statics cell in H -/
def vx_L (C n d : String) (A : Nat → Prop) (U : State) (H : Heap) : Prop := ∃ (c : ClassId) (k : Class) (i : Nat) (f : Field) (a : Nat) (cell : Cell), U.vm.findClass C = some c ∧ U.fieldFound? C n d = some (c, k, i, f) ∧ f.isStatic = true ∧ k.statics = some a ∧ H[a]? = some cell ∧ cell.vm.isStatics = true ∧ cell.cls = c ∧ f.slot < cell.slots.size ∧ k.staticTypes[f.slot]? = some f.type ∧ ¬ A a
theorem vx_L.moved {C n d : String} {A : Nat → Prop} {u U : State} {H : Heap} (hvm : u.vm.Alike U.vm) (h : vx_L C n d A u H) : vx_L C n d A U H := by
  obtain ⟨c, k, i, f, a, cell, h1, h2, h3, h4, h5, h6, h7, h8, h9, h10⟩ := h
  obtain ⟨k', hi', he⟩ := State.fieldFound?_setVm hvm h2
  exact ⟨c, k', i, f, a, cell, by rw [hvm.findClass]; exact h1, hi', h3, by rw [he]; exact h4, h5, h6, h7, h8, by rw [he]; exact h9, h10⟩
theorem vx_L.kept {C n d : String} {A : Nat → Prop} {U : State} {H H1 : Heap} (h : vx_L C n d A U H) (hq : ∀ a : Nat, a < H.size → ¬ A a → H1[a]? = H[a]?) : vx_L C n d A U H1 := by
  obtain ⟨c, k, i, f, a, cell, h1, h2, h3, h4, h5, h6, h7, h8, h9, h10⟩ := h
  exact ⟨c, k, i, f, a, cell, h1, h2, h3, h4, by rw [hq a (Array.getElem?_eq_some_iff.mp h5).1 h10]; exact h5, h6, h7, h8, h9, h10⟩
theorem vx_L.narrow {C n d : String} {A B : Nat → Prop} {U : State} {H : Heap} (h : vx_L C n d A U H) (hAB : ∀ q, B q → A q) : vx_L C n d B U H := by
  obtain ⟨c, k, i, f, a, cell, h1, h2, h3, h4, h5, h6, h7, h8, h9, h10⟩ := h
  exact ⟨c, k, i, f, a, cell, h1, h2, h3, h4, h5, h6, h7, h8, h9, fun z => h10 (hAB _ z)⟩
theorem vx_L.word {C n d : String} {A : Nat → Prop} {s : State} {args : Array Value} (h : vx_L C n d A s s.heap) : (Cond.laysStatic C n d).before args s = true := by
  obtain ⟨c, k, i, f, a, cell, h1, h2, h3, h4, h5, h6, h7, h8, h9, -⟩ := h
  show (Cond.laysStatic C n d).holds args s none s [] = true
  exact Cond.laysStatic_of h1 h2 h3 h4 h5 h6 h7 h8 h9
/-- .. and what it holds: null or some reference -/
def vx_Zq (C n d : String) (A : Nat → Prop) (U : State) (H : Heap) : Prop := va_Zq C n d A U H ∧ vx_L C n d A U H
theorem vx_Zq.moved {C n d : String} {A : Nat → Prop} {u U : State} {H : Heap} (hvm : u.vm.Alike U.vm) (h : vx_Zq C n d A u H) : vx_Zq C n d A U H := ⟨va_Zq.moved hvm h.1, vx_L.moved hvm h.2⟩
theorem vx_Zq.kept {C n d : String} {A : Nat → Prop} {U : State} {H H1 : Heap} (h : vx_Zq C n d A U H) (hq : ∀ a : Nat, a < H.size → ¬ A a → H1[a]? = H[a]?) : vx_Zq C n d A U H1 := ⟨va_Zq.kept h.1 hq, vx_L.kept h.2 hq⟩
theorem vx_Zq.narrow {C n d : String} {A B : Nat → Prop} {U : State} {H : Heap} (h : vx_Zq C n d A U H) (hAB : ∀ q, B q → A q) : vx_Zq C n d B U H := ⟨va_Zq.narrow h.1 hAB, vx_L.narrow h.2 hAB⟩
theorem vx_Zqof {args : Array Value} {s : State} {C n d : String} {A : Nat → Prop} (hl : (Cond.laysStatic C n d).before args s = true) (hini : (Cond.initialized C).before args s = true) (h : (Cond.isRef (.static C n d)).before args s = true) (hA : ∀ a : Nat, a < s.heap.size → ¬ A a) : vx_Zq C n d A s s.heap := by
  refine ⟨va_Zqof hl hini h hA, ?_⟩
  obtain ⟨c, k, i, f, a, cell, h1, h2, h3, h4, h5, h6, h7, h8, h9⟩ := Cond.laysStatic_spec hl
  exact ⟨c, k, i, f, a, cell, h1, h2, h3, h4, h5, h6, h7, h8, h9, hA a (Array.getElem?_eq_some_iff.mp h5).1⟩
theorem vx_isRef {C n d : String} {v : Value} {A : Nat → Prop} {s : State} {args : Array Value} (h : va_Z C n d v A s s.heap) (hv : v.isRef = true) : (Cond.isRef (.static C n d)).before args s = true := by
  obtain ⟨cf, kf, fi, f, a, cell, h1, h2, h3, h4, h5, h6, h7, -⟩ := h
  have he : (Term.static C n d).eval args s none [] s = some v := by
    simp [Term.eval, State.fieldNamed?, h1, h2, h4, h5, h6, h7]
  simp only [Cond.before, Cond.holds, Cond.value, he]
  cases v <;> simp_all [Value.isRef]
theorem vx_isRefq {C n d : String} {A : Nat → Prop} {s : State} {args : Array Value} (h : va_Zq C n d A s s.heap) : (Cond.isRef (.static C n d)).before args s = true := by
  rcases h with h | ⟨t, h⟩
  · exact vx_isRef h rfl
  · exact vx_isRef h rfl
/-- the same frame, seen from here: as if the method were called anew in this heap -/
theorem vx_rebase {T : State} (X : Stand p l e R s m args below meth c T locs cells slots) {R' : Room} (hf : R'.frames ≤ R.frames) (hl : R'.locals ≤ R.locals) (hc : cells + R'.cells ≤ R.cells) (hs : slots + R'.slots ≤ R.slots) :
    Stand p l e R' ((T.setVm s.vm).setFrames (.invoking m args :: below)) m args below meth c T [] 0 0 := by
  have htop : (T.setVm s.vm).topJava?.isSome := X.here.top
  have hF : ((T.setVm s.vm).setFrames (.invoking m args :: below)).frames = .invoking m args :: below := State.frames_setFrames _ (State.cur_lt_of_top htop)
  obtain ⟨g₀, hg0⟩ := Option.isSome_iff_exists.mp htop
  obtain ⟨r, hr⟩ := State.topJava?_eq_some.mp hg0
  have hl9 : e.platform.stackLimits (T.setVm s.vm).me = e.platform.stackLimits s.me := X.limits
  have hb9 : (T.setVm s.vm).me.stackBytes = s.me.stackBytes := X.bytes
  refine ⟨X.admits, X.cas, X.clock, hF, ?_, X.hears, X.method, X.code, X.here, X.tail, X.warmed, ?_, ?_, ?_⟩
  · have h := X.room
    have hU : ((T.setVm s.vm).setFrames (.invoking m args :: below)).localsInUse = s.localsInUse := by
      rw [State.localsInUse_invoking hF (meth := meth) (c := c) X.method X.code, State.localsInUse_invoking X.frames X.method X.code]
    simp only [State.hasRoom, Bool.and_eq_true, decide_eq_true_eq] at h ⊢
    obtain ⟨⟨⟨⟨h1, h2, h3, h4, h5, h6⟩, h7⟩, h8⟩, h9⟩ := h
    rw [X.frames, List.length_cons] at h2 h3
    have q1 := X.heapSize
    have q2 := X.used
    simp only [hF, hU, List.length_cons, State.stackLimits_setFrames, State.stackBytes_setFrames, hl9, hb9]
    refine ⟨⟨⟨⟨by omega, by omega, by omega, by omega, by omega, h6⟩, ?_⟩, ?_⟩, X.book⟩
    · show T.heap.size + R'.cells ≤ e.platform.maxCells
      omega
    · show T.slotsUsed + R'.slots ≤ e.platform.maxSlots
      omega
  · rw [State.stackLimits_setFrames]; rfl
  · rw [State.stackBytes_setFrames]; rfl
  · refine ⟨?_, Nat.le_refl _, Nat.le_refl _, ?_, ?_, fun a c9 h9 => ⟨c9, h9, rfl, rfl, fun _ _ => rfl⟩⟩
    · obtain ⟨t, ht, -⟩ := State.frames_cons hr
      show T.setVm s.vm = { ((T.setVm s.vm).setFrames (.invoking m args :: below)).setFrames (T.setVm s.vm).frames with heap := T.heap, slotsUsed := T.slotsUsed }
      rw [State.setFrames_setFrames, State.setFrames_self ht]
      rfl
    · show T.slotsUsed = T.slotsUsed + ((T.heap.toList.drop T.heap.size).map (·.slots.size)).sum
      rw [List.drop_eq_nil_of_le (Nat.le_of_eq Array.length_toList)]
      rfl
    · show ((T.heap.toList.drop T.heap.size).map (·.slots.size)).sum ≤ 0
      rw [List.drop_eq_nil_of_le (Nat.le_of_eq Array.length_toList)]
      exact Nat.le_refl _
/-- 'throw new E()': new; dup; invokespecial; athrow -/
theorem vx_throw0 {cc : ByteArray} {pc : Nat} (hexec : p.tables.exec = Jvm.exec) (hb : c.code = cc) (hl : l.stackTraces = false) {own cls : String} {names : List String} {ik ic mc ms : Nat} {A : Nat → Prop}
    (hown : s.vm.findClass own = some m.cls) (hcls : Bundle.fit cls = true) (hnames : ∀ n ∈ names, Bundle.fit n = true)
    (hk : (Cond.classLink own ik cls).before args s = true) (hini : (Cond.initialized cls).before args s = true) (hat : ∀ w ∈ vx_at0 own ic cls names, w.before args s = true)
    (hgood : ∀ w ∈ Cond.classLink own ik cls :: Cond.initialized cls :: vx_at0 own ic cls names, vx_ot w = true)
    (hU : vx_Zq Bundle.tN "UNASSIGNED_STACK" Bundle.steD A s s.heap) (hN : vx_Zq Bundle.tN "SUPPRESSED_SENTINEL" Bundle.listD A s s.heap) (hS : va_S A s.heap H locs) (hsize : ls.size = c.maxLocals)
    (d0 : decode cc pc = .ok (.new ik, 3)) (d3 : decode cc (pc + 3) = .ok (.dup, 1)) (d4 : decode cc (pc + 4) = .ok (.invokespecial ic, 3)) (d7 : decode cc (pc + 7) = .ok (.athrow, 1))
    (hout : ∀ x ∈ c.exceptionTable.toList, covers x (pc + 7) = false)
    (hRframes : names.length + 3 < R.frames) (hRlocals : (rest.map fun v => v.category).sum + (13 * (names.length + 1) + 42) ≤ R.locals) (hRcells : cells + 1 ≤ R.cells) (hRslots : slots + 6 ≤ R.slots) (hlocks : meth.locks = false)
    (hx : ∀ t : State, s.vm.Alike t.vm → H.size ≤ t.heap.size → (∀ q : Nat, q < H.size → t.heap[q]? = H[q]?) → XC cls s t)
    (hf : ∀ z ∈ locs, free z.base) (hc : cells + 1 ≤ mc) (hs : slots + 6 ≤ ms) :
    W p l e R s m args below meth c H locs cells slots (vx_MQ below Qc XC args s mc ms free) (F0 m pc ls rest) := by
  intro T hT X
  have htr : e.platform.stackTraces = false := (show e.platform.stackTraces = l.stackTraces by rw [X.admits.platform]).trans hl
  have Y := vx_rebase X (R' := { frames := R.frames, locals := R.locals, cells := 1, slots := 6 }) (Nat.le_refl _) (Nat.le_refl _) hRcells hRslots
  obtain ⟨s', hA⟩ : ∃ z, z = (T.setVm s.vm).setFrames (.invoking m args :: below) := ⟨_, rfl⟩
  rw [← hA] at Y
  have hvm : s'.vm = s.vm := by rw [hA]; rfl
  have hhp : s'.heap = H := by rw [hA]; exact hT
  have hW0 : s.WarmedH s'.vm := by rw [hvm]; exact State.WarmedH.refl s
  have hat' : ∀ w ∈ vx_at0 own ic cls names, w.before args s' = true := fun w hw => vx_ot_at hW0 hvm.symm (hgood w (List.mem_cons_of_mem _ (List.mem_cons_of_mem _ hw))) (hat w hw)
  have hk' : (Cond.classLink own ik cls).before args s' = true := vx_ot_at hW0 hvm.symm (hgood _ List.mem_cons_self) hk
  have hini' : (Cond.initialized cls).before args s' = true := vx_ot_at hW0 hvm.symm (hgood _ (List.mem_cons_of_mem _ List.mem_cons_self)) hini
  have hU' : vx_Zq Bundle.tN "UNASSIGNED_STACK" Bundle.steD A s' s'.heap := by rw [hhp]; exact vx_Zq.moved hW0.alike (hU.kept hS.2.1)
  have hN' : vx_Zq Bundle.tN "SUPPRESSED_SENTINEL" Bundle.listD A s' s'.heap := by rw [hhp]; exact vx_Zq.moved hW0.alike (hN.kept hS.2.1)
  have h : ∀ w ∈ Bundle.ownAtoms0 own ic cls names, w.before args s' = true := vx_own hat' (vx_isRefq hU'.1) (vx_isRefq hN'.1) hU'.2.word hN'.2.word
  have hown' : s'.vm.findClass own = some m.cls := by rw [hvm]; exact hown
  have hins : (Cond.instantiable cls 6).before args s' = true := h _ (by simp [Bundle.ownAtoms0])
  obtain ⟨vm₁, cX, kX, hfX, hkX, -, -, X₁, st1⟩ := Y.newCold hexec (own := own) (C := cls) (index := ik) (n := 6) hown' hk' hins hini'
    (g := F0 m pc ls rest) rfl (by rw [hb]; exact d0) (Nat.le_refl _) (Nat.le_refl _)
  generalize hT1 : (T.setVm vm₁).pushCell { cls := cX, slots := kX.instanceTypes.map defaultValue, vm := .none } = T1 at X₁ st1
  have hcat : (Value.ref T.heap.size).category = 1 := rfl
  have hcellA : T1.heap[T.heap.size]? = some (freshCell cX kX) := by rw [← hT1]; exact State.heap_pushCell_size _ _
  have d3' : decode c.code (pc + 3) = .ok (.dup, 1) := by rw [hb]; exact d3
  obtain ⟨U, hsteps, hrun, hend, hW, hsame, ce, hce, hO⟩ := X₁.ctorThrow0 hexec htr (own := own) (cls := cls) (names := names) (ic := ic) hown' hcls hnames h (fun x hx => nomatch hx) hfX hkX hcellA (by rw [hhp, hT]; exact Nat.le_refl _)
    (g := { method := m, pc := pc + 4, locals := ls, stack := .ref T.heap.size :: .ref T.heap.size :: rest, locked := none }) rfl hsize rfl rfl (rest := rest) rfl
    (by rw [hb]; exact d4) (by rw [hb]; exact d7) hout hRframes (by simp only [List.map_cons, List.sum_cons, hcat]; omega) hlocks
  obtain ⟨f1, f2⟩ := vx_frame hsame
  rw [hhp] at f1 f2
  have hWs : s.WarmedH U.vm := State.WarmedH.trans hW0 hW
  have hcl : s.vm.findClass cls = some ce.cls := by
    have h9 := hO.cls
    rw [hvm] at h9
    exact h9
  have hall : s.sameButNew ({ U with vm := s.vm } : State) locs mc ms := by
    subst hA
    obtain ⟨e1, e2⟩ := hsame
    rw [State.setFrames_setFrames] at e1
    have h2 : (T.setVm s.vm).sameButNew ({ U with vm := s.vm } : State) [] (0 + 1) (0 + 6) := ⟨e1, e2⟩
    have h3 := X.same.trans h2
    rw [List.append_nil] at h3
    exact h3.mono hc hs
  refine ⟨U, ?_, .threw T.heap.size, hrun, hend, Or.inr ⟨T.heap.size, rfl, cls, ce, locs, hx U hWs.alike f1 (fun q hq => f2 q hq (fun z hz => nomatch hz)), hce, hO.vm, hcl, hWs, hall, hf⟩⟩
  refine st1 _ ?_
  show Steps p.tables e below (T1.setTop { method := m, pc := pc + 3, locals := ls, stack := .ref T.heap.size :: rest, locked := none }) _
  jvm_step X₁.here [X₁.here.top, hexec, d3', Value.category]
  exact hsteps
/-- 'throw new E("text")': new; dup; ldc; invokespecial; athrow -/
theorem vx_throwS {cc : ByteArray} {pc : Nat} (hexec : p.tables.exec = Jvm.exec) (hb : c.code = cc) (hl : l.stackTraces = false) {own cls text : String} {names : List String} {ik is ic mc ms sa : Nat} {A : Nat → Prop}
    (hown : s.vm.findClass own = some m.cls) (hcls : Bundle.fit cls = true) (hnames : ∀ n ∈ names, Bundle.fit n = true)
    (hk : (Cond.classLink own ik cls).before args s = true) (hini : (Cond.initialized cls).before args s = true) (hstr : vk_R own is text sa s) (hat : ∀ w ∈ vx_atS own ic cls names, w.before args s = true)
    (hgood : ∀ w ∈ Cond.classLink own ik cls :: Cond.initialized cls :: vx_atS own ic cls names, vx_ot w = true)
    (hU : vx_Zq Bundle.tN "UNASSIGNED_STACK" Bundle.steD A s s.heap) (hN : vx_Zq Bundle.tN "SUPPRESSED_SENTINEL" Bundle.listD A s s.heap) (hS : va_S A s.heap H locs) (hsize : ls.size = c.maxLocals)
    (d0 : decode cc pc = .ok (.new ik, 3)) (d3 : decode cc (pc + 3) = .ok (.dup, 1)) (d4 : decode cc (pc + 4) = .ok (.ldc is, 2)) (d6 : decode cc (pc + 6) = .ok (.invokespecial ic, 3)) (d9 : decode cc (pc + 9) = .ok (.athrow, 1))
    (hout : ∀ x ∈ c.exceptionTable.toList, covers x (pc + 9) = false)
    (hRframes : names.length + 3 < R.frames) (hRlocals : (rest.map fun v => v.category).sum + (13 * (names.length + 1) + 43) ≤ R.locals) (hRcells : cells + 1 ≤ R.cells) (hRslots : slots + 6 ≤ R.slots) (hlocks : meth.locks = false)
    (hx : ∀ t : State, s.vm.Alike t.vm → H.size ≤ t.heap.size → (∀ q : Nat, q < H.size → t.heap[q]? = H[q]?) → XC cls s t)
    (hf : ∀ z ∈ locs, free z.base) (hc : cells + 1 ≤ mc) (hs : slots + 6 ≤ ms) :
    W p l e R s m args below meth c H locs cells slots (vx_MQ below Qc XC args s mc ms free) (F0 m pc ls rest) := by
  intro T hT X
  have htr : e.platform.stackTraces = false := (show e.platform.stackTraces = l.stackTraces by rw [X.admits.platform]).trans hl
  have Y := vx_rebase X (R' := { frames := R.frames, locals := R.locals, cells := 1, slots := 6 }) (Nat.le_refl _) (Nat.le_refl _) hRcells hRslots
  obtain ⟨s', hA⟩ : ∃ z, z = (T.setVm s.vm).setFrames (.invoking m args :: below) := ⟨_, rfl⟩
  rw [← hA] at Y
  have hvm : s'.vm = s.vm := by rw [hA]; rfl
  have hhp : s'.heap = H := by rw [hA]; exact hT
  have hW0 : s.WarmedH s'.vm := by rw [hvm]; exact State.WarmedH.refl s
  have hat' : ∀ w ∈ vx_atS own ic cls names, w.before args s' = true := fun w hw => vx_ot_at hW0 hvm.symm (hgood w (List.mem_cons_of_mem _ (List.mem_cons_of_mem _ hw))) (hat w hw)
  have hk' : (Cond.classLink own ik cls).before args s' = true := vx_ot_at hW0 hvm.symm (hgood _ List.mem_cons_self) hk
  have hini' : (Cond.initialized cls).before args s' = true := vx_ot_at hW0 hvm.symm (hgood _ (List.mem_cons_of_mem _ List.mem_cons_self)) hini
  have hU' : vx_Zq Bundle.tN "UNASSIGNED_STACK" Bundle.steD A s' s'.heap := by rw [hhp]; exact vx_Zq.moved hW0.alike (hU.kept hS.2.1)
  have hN' : vx_Zq Bundle.tN "SUPPRESSED_SENTINEL" Bundle.listD A s' s'.heap := by rw [hhp]; exact vx_Zq.moved hW0.alike (hN.kept hS.2.1)
  have h : ∀ w ∈ Bundle.ownAtoms own ic cls names, w.before args s' = true := vx_own hat' (vx_isRefq hU'.1) (vx_isRefq hN'.1) hU'.2.word hN'.2.word
  have hown' : s'.vm.findClass own = some m.cls := by rw [hvm]; exact hown
  have hins : (Cond.instantiable cls 6).before args s' = true := h _ (by simp [Bundle.ownAtoms])
  obtain ⟨vm₁, cX, kX, hfX, hkX, -, -, X₁, st1⟩ := Y.newCold hexec (own := own) (C := cls) (index := ik) (n := 6) hown' hk' hins hini'
    (g := F0 m pc ls rest) rfl (by rw [hb]; exact d0) (Nat.le_refl _) (Nat.le_refl _)
  generalize hT1 : (T.setVm vm₁).pushCell { cls := cX, slots := kX.instanceTypes.map defaultValue, vm := .none } = T1 at X₁ st1
  have hcat : (Value.ref T.heap.size).category = 1 := rfl
  have hcellA : T1.heap[T.heap.size]? = some (freshCell cX kX) := by rw [← hT1]; exact State.heap_pushCell_size _ _
  have d3' : decode c.code (pc + 3) = .ok (.dup, 1) := by rw [hb]; exact d3
  have d4' : decode c.code (pc + 4) = .ok (.ldc is, 2) := by rw [hb]; exact d4
  have hstr' : vk_R own is text sa s' := vk_R.warm hW0 hstr
  obtain ⟨U, hsteps, hrun, hend, hW, hsame, ce, hce, hO⟩ := X₁.ctorThrowS hexec htr (own := own) (cls := cls) (names := names) (ic := ic) hown' hcls hnames h (fun x hx => nomatch hx) hfX hkX hcellA (by rw [hhp, hT]; exact Nat.le_refl _) (msg := .ref sa) rfl
    (g := { method := m, pc := pc + 6, locals := ls, stack := .ref sa :: .ref T.heap.size :: .ref T.heap.size :: rest, locked := none }) rfl hsize rfl rfl (rest := rest) rfl
    (by rw [hb]; exact d6) (by rw [hb]; exact d9) hout hRframes (by simp only [List.map_cons, List.sum_cons, hcat]; omega) hlocks
  obtain ⟨f1, f2⟩ := vx_frame hsame
  rw [hhp] at f1 f2
  have hWs : s.WarmedH U.vm := State.WarmedH.trans hW0 hW
  have hcl : s.vm.findClass cls = some ce.cls := by
    have h9 := hO.cls
    rw [hvm] at h9
    exact h9
  have hall : s.sameButNew ({ U with vm := s.vm } : State) locs mc ms := by
    subst hA
    obtain ⟨e1, e2⟩ := hsame
    rw [State.setFrames_setFrames] at e1
    have h2 : (T.setVm s.vm).sameButNew ({ U with vm := s.vm } : State) [] (0 + 1) (0 + 6) := ⟨e1, e2⟩
    have h3 := X.same.trans h2
    rw [List.append_nil] at h3
    exact h3.mono hc hs
  refine ⟨U, ?_, .threw T.heap.size, hrun, hend, Or.inr ⟨T.heap.size, rfl, cls, ce, locs, hx U hWs.alike f1 (fun q hq => f2 q hq (fun z hz => nomatch hz)), hce, hO.vm, hcl, hWs, hall, hf⟩⟩
  refine st1 _ ?_
  show Steps p.tables e below (T1.setTop { method := m, pc := pc + 3, locals := ls, stack := .ref T.heap.size :: rest, locked := none }) _
  jvm_step X₁.here [X₁.here.top, hexec, d3', Value.category]
  exact X₁.ldcString hexec (own := own) (text := text) (index := is) (a := sa) hown' hstr'.1 hstr'.2
    (g := { method := m, pc := pc + 4, locals := ls, stack := .ref T.heap.size :: .ref T.heap.size :: rest, locked := none }) rfl d4' _ hsteps
/-- 'throw new E("text")', the text by a wide index -/
theorem vx_throwSW {cc : ByteArray} {pc : Nat} (hexec : p.tables.exec = Jvm.exec) (hb : c.code = cc) (hl : l.stackTraces = false) {own cls text : String} {names : List String} {ik is ic mc ms sa : Nat} {A : Nat → Prop}
    (hown : s.vm.findClass own = some m.cls) (hcls : Bundle.fit cls = true) (hnames : ∀ n ∈ names, Bundle.fit n = true)
    (hk : (Cond.classLink own ik cls).before args s = true) (hini : (Cond.initialized cls).before args s = true) (hstr : vk_R own is text sa s) (hat : ∀ w ∈ vx_atS own ic cls names, w.before args s = true)
    (hgood : ∀ w ∈ Cond.classLink own ik cls :: Cond.initialized cls :: vx_atS own ic cls names, vx_ot w = true)
    (hU : vx_Zq Bundle.tN "UNASSIGNED_STACK" Bundle.steD A s s.heap) (hN : vx_Zq Bundle.tN "SUPPRESSED_SENTINEL" Bundle.listD A s s.heap) (hS : va_S A s.heap H locs) (hsize : ls.size = c.maxLocals)
    (d0 : decode cc pc = .ok (.new ik, 3)) (d3 : decode cc (pc + 3) = .ok (.dup, 1)) (d4 : decode cc (pc + 4) = .ok (.ldc_w is, 3)) (d7 : decode cc (pc + 7) = .ok (.invokespecial ic, 3)) (d10 : decode cc (pc + 10) = .ok (.athrow, 1))
    (hout : ∀ x ∈ c.exceptionTable.toList, covers x (pc + 10) = false)
    (hRframes : names.length + 3 < R.frames) (hRlocals : (rest.map fun v => v.category).sum + (13 * (names.length + 1) + 43) ≤ R.locals) (hRcells : cells + 1 ≤ R.cells) (hRslots : slots + 6 ≤ R.slots) (hlocks : meth.locks = false)
    (hx : ∀ t : State, s.vm.Alike t.vm → H.size ≤ t.heap.size → (∀ q : Nat, q < H.size → t.heap[q]? = H[q]?) → XC cls s t)
    (hf : ∀ z ∈ locs, free z.base) (hc : cells + 1 ≤ mc) (hs : slots + 6 ≤ ms) :
    W p l e R s m args below meth c H locs cells slots (vx_MQ below Qc XC args s mc ms free) (F0 m pc ls rest) := by
  intro T hT X
  have htr : e.platform.stackTraces = false := (show e.platform.stackTraces = l.stackTraces by rw [X.admits.platform]).trans hl
  have Y := vx_rebase X (R' := { frames := R.frames, locals := R.locals, cells := 1, slots := 6 }) (Nat.le_refl _) (Nat.le_refl _) hRcells hRslots
  obtain ⟨s', hA⟩ : ∃ z, z = (T.setVm s.vm).setFrames (.invoking m args :: below) := ⟨_, rfl⟩
  rw [← hA] at Y
  have hvm : s'.vm = s.vm := by rw [hA]; rfl
  have hhp : s'.heap = H := by rw [hA]; exact hT
  have hW0 : s.WarmedH s'.vm := by rw [hvm]; exact State.WarmedH.refl s
  have hat' : ∀ w ∈ vx_atS own ic cls names, w.before args s' = true := fun w hw => vx_ot_at hW0 hvm.symm (hgood w (List.mem_cons_of_mem _ (List.mem_cons_of_mem _ hw))) (hat w hw)
  have hk' : (Cond.classLink own ik cls).before args s' = true := vx_ot_at hW0 hvm.symm (hgood _ List.mem_cons_self) hk
  have hini' : (Cond.initialized cls).before args s' = true := vx_ot_at hW0 hvm.symm (hgood _ (List.mem_cons_of_mem _ List.mem_cons_self)) hini
  have hU' : vx_Zq Bundle.tN "UNASSIGNED_STACK" Bundle.steD A s' s'.heap := by rw [hhp]; exact vx_Zq.moved hW0.alike (hU.kept hS.2.1)
  have hN' : vx_Zq Bundle.tN "SUPPRESSED_SENTINEL" Bundle.listD A s' s'.heap := by rw [hhp]; exact vx_Zq.moved hW0.alike (hN.kept hS.2.1)
  have h : ∀ w ∈ Bundle.ownAtoms own ic cls names, w.before args s' = true := vx_own hat' (vx_isRefq hU'.1) (vx_isRefq hN'.1) hU'.2.word hN'.2.word
  have hown' : s'.vm.findClass own = some m.cls := by rw [hvm]; exact hown
  have hins : (Cond.instantiable cls 6).before args s' = true := h _ (by simp [Bundle.ownAtoms])
  obtain ⟨vm₁, cX, kX, hfX, hkX, -, -, X₁, st1⟩ := Y.newCold hexec (own := own) (C := cls) (index := ik) (n := 6) hown' hk' hins hini'
    (g := F0 m pc ls rest) rfl (by rw [hb]; exact d0) (Nat.le_refl _) (Nat.le_refl _)
  generalize hT1 : (T.setVm vm₁).pushCell { cls := cX, slots := kX.instanceTypes.map defaultValue, vm := .none } = T1 at X₁ st1
  have hcat : (Value.ref T.heap.size).category = 1 := rfl
  have hcellA : T1.heap[T.heap.size]? = some (freshCell cX kX) := by rw [← hT1]; exact State.heap_pushCell_size _ _
  have d3' : decode c.code (pc + 3) = .ok (.dup, 1) := by rw [hb]; exact d3
  have d4' : decode c.code (pc + 4) = .ok (.ldc_w is, 3) := by rw [hb]; exact d4
  have hstr' : vk_R own is text sa s' := vk_R.warm hW0 hstr
  obtain ⟨U, hsteps, hrun, hend, hW, hsame, ce, hce, hO⟩ := X₁.ctorThrowS hexec htr (own := own) (cls := cls) (names := names) (ic := ic) hown' hcls hnames h (fun x hx => nomatch hx) hfX hkX hcellA (by rw [hhp, hT]; exact Nat.le_refl _) (msg := .ref sa) rfl
    (g := { method := m, pc := pc + 7, locals := ls, stack := .ref sa :: .ref T.heap.size :: .ref T.heap.size :: rest, locked := none }) rfl hsize rfl rfl (rest := rest) rfl
    (by rw [hb]; exact d7) (by rw [hb]; exact d10) hout hRframes (by simp only [List.map_cons, List.sum_cons, hcat]; omega) hlocks
  obtain ⟨f1, f2⟩ := vx_frame hsame
  rw [hhp] at f1 f2
  have hWs : s.WarmedH U.vm := State.WarmedH.trans hW0 hW
  have hcl : s.vm.findClass cls = some ce.cls := by
    have h9 := hO.cls
    rw [hvm] at h9
    exact h9
  have hall : s.sameButNew ({ U with vm := s.vm } : State) locs mc ms := by
    subst hA
    obtain ⟨e1, e2⟩ := hsame
    rw [State.setFrames_setFrames] at e1
    have h2 : (T.setVm s.vm).sameButNew ({ U with vm := s.vm } : State) [] (0 + 1) (0 + 6) := ⟨e1, e2⟩
    have h3 := X.same.trans h2
    rw [List.append_nil] at h3
    exact h3.mono hc hs
  refine ⟨U, ?_, .threw T.heap.size, hrun, hend, Or.inr ⟨T.heap.size, rfl, cls, ce, locs, hx U hWs.alike f1 (fun q hq => f2 q hq (fun z hz => nomatch hz)), hce, hO.vm, hcl, hWs, hall, hf⟩⟩
  refine st1 _ ?_
  show Steps p.tables e below (T1.setTop { method := m, pc := pc + 3, locals := ls, stack := .ref T.heap.size :: rest, locked := none }) _
  jvm_step X₁.here [X₁.here.top, hexec, d3', Value.category]
  exact X₁.ldcStringW hexec (own := own) (text := text) (index := is) (a := sa) hown' hstr'.1 hstr'.2
    (g := { method := m, pc := pc + 4, locals := ls, stack := .ref T.heap.size :: .ref T.heap.size :: rest, locked := none }) rfl d4' _ hsteps
end Ends
section Bodies
variable {l : Launch}
theorem vx_ofW {y : MethodName} {ws ws' : List Cond} {rm : Room} {Pc : Array Value → State → Prop} {Qc : Array Value → State → Outcome → State → Prop} {XC : String → State → State → Prop} {mc ms : Nat} {free : Addr → Prop} {cc : ByteArray} {maxL : Nat} {ret : Option FieldType}
    (hy : plainName y.cls = true) (hw : ws = Cond.code y cc maxL ret :: ws')
    (body : ∀ p e s m args below meth c s₁, BodyLoose p l y (headSpec ws rm) cc maxL ret e s m args below meth c s₁ → c.maxLocals = maxL → (∀ x ∈ c.exceptionTable.toList, False) → Pc args s →
      W p l e (headSpec ws rm).room s m args below meth c s.heap [] 0 0 (vx_MQ below Qc XC args s mc ms free) (entryFrame m args maxL)) : vx_Met l y ws rm Pc Qc XC mc ms free := by
  refine MetFree.of_bodyS (code := cc) (maxLocals := maxL) (ret := ret) hy ?_ ?_
  · intro args s m h hn
    obtain ⟨meth, c, h1, h2, h3, h4, h5, h6, -, -⟩ := Cond.code_spec hn (atoms_spec (ws := ws) h _ (by rw [hw]; exact List.mem_cons_self))
    exact ⟨meth, c, h1, h2, h3, h4, h5, h6⟩
  · intro p e s m args below meth c s₁ B hml hP _
    have hh0 : s₁.heap = s.heap := by rw [B.state]; rfl
    have ht : ∀ x ∈ c.exceptionTable.toList, False := by
      obtain ⟨meth9, c9, h1, h2, -, -, -, -, h7, -⟩ := Cond.code_spec B.named (atoms_spec (ws := ws) B.pre _ (by rw [hw]; exact List.mem_cons_self))
      cases Option.some.inj (h1.symm.trans B.method)
      cases Option.some.inj (h2.symm.trans (Stand.of_body B).code)
      intro x hx
      rw [Array.isEmpty_iff.mp h7] at hx
      cases hx
    obtain ⟨t, a1, o, b1, b2, b3⟩ := body p e s m args below meth c s₁ B hml ht hP s₁ hh0 (Stand.of_body B)
    exact ⟨t, o, a1, b1, b2, b3⟩
/-- the table of a body with handlers -/
theorem vx_table {p : Program} {x y : MethodName} {S : Spec} {cc bytes : ByteArray} {maxL maxL' : Nat} {ret ret' : Option FieldType} {e : Env} {s s₁ : State} {m : MethodId} {args : Array Value} {below : List Frame} {meth : Method} {c : Code} {hh : List (Nat × Nat × Nat × Nat)}
    (B : BodyLoose p l y S cc maxL ret e s m args below meth c s₁) (h : (Cond.codeWith y bytes maxL' ret' hh).before args s = true) : c.exceptionTable.toList = tableOf hh := by
  obtain ⟨m9, meth9, c9, hn9, h1, h2, -, -, h6, -⟩ := Cond.codeWith_spec h
  cases Option.some.inj (hn9.symm.trans B.named)
  cases Option.some.inj (h1.symm.trans B.method)
  cases Option.some.inj (h2.symm.trans (Stand.of_body B).code)
  rw [← h6, table_eq]
end Bodies
end VXA
/-! ===== END ===== -/
/-! ===== BEGIN a static call of a method with an exception table ===== -/
section VXS
variable {p : Program} {l : Launch} {e : Env} {R : Room} {s : State} {m : MethodId} {args : Array Value} {below : List Frame} {meth : Method} {c : Code} {T : State} {H : Heap} {locs : List Loc} {cells slots : Nat}
abbrev vx_CSW (R : Room) (s : State) (args : Array Value) (own : String) (index : Nat) (y : MethodName) (bytes : ByteArray) (maxL : Nat) (ret : Option FieldType) (hh : List (Nat × Nat × Nat × Nat)) (ws : List Cond) (rm : Room) (mc ms n : Nat) : Prop :=
  (rm.cells = mc ∧ rm.slots = ms ∧ rm.frames + 1 ≤ R.frames ∧ 8 + (maxL + 11) + rm.locals ≤ R.locals ∧ (∀ w ∈ ws, ∀ (a' : Array Value) (U : State), s.WarmedH U.vm → w.before a' U = true) ∧ Cond.codeWith y bytes maxL ret hh ∈ ws) ∧
  (Cond.codeWith y bytes maxL ret hh).before args s = true ∧ (Cond.initialized y.cls).before args s = true ∧ (y.cls ≠ "java/lang/invoke/MethodHandle" ∧ y.cls ≠ "java/lang/invoke/VarHandle") ∧
  (∀ sig, parseMethodDescriptor y.desc = some sig → n = sig.parameters.length) ∧ (Cond.methodLink own index y).before args s = true ∧ (Cond.static y).before args s = true
theorem vx_cwSW {own : String} {index maxL mc ms : Nat} {y : MethodName} {bytes : ByteArray} {ret : Option FieldType} {hh : List (Nat × Nat × Nat × Nat)} {Ts ws ws' : List Cond} {rm : Room} (n : Nat) (ht : ∀ w ∈ Ts, w.before args s = true) (hT : GoodIn Ts (va_wsS own index y ws)) (hw : ws = Cond.codeWith y bytes maxL ret hh :: ws') (hrc : rm.cells = mc) (hrs : rm.slots = ms)
    (hd : y.cls ≠ "java/lang/invoke/MethodHandle" ∧ y.cls ≠ "java/lang/invoke/VarHandle" ∧ (parseMethodDescriptor y.desc).map (fun d => d.parameters.length) = some n) (hR : rm.frames + 1 ≤ R.frames ∧ 8 + (maxL + 11) + rm.locals ≤ R.locals) :
    vx_CSW R s args own index y bytes maxL ret hh ws rm mc ms n := by
  have ok : ∀ w ∈ va_wsS own index y ws, w.before args s = true := fun w h => ht w (hT w h).1
  have hG : GoodIn Ts ws := fun w h => hT w (by unfold va_wsS; exact List.mem_append_right _ h)
  have hc : Cond.codeWith y bytes maxL ret hh ∈ ws := by rw [hw]; exact List.mem_cons_self
  refine ⟨⟨hrc, hrs, hR.1, hR.2, pay_in ht hG, hc⟩, ht _ (hG _ hc).1, ok _ (by simp [va_wsS]), ⟨hd.1, hd.2.1⟩, fun sig h => ?_, ok _ (by simp [va_wsS]), ok _ (by simp [va_wsS])⟩
  have h2 := hd.2.2
  rw [h] at h2
  exact (Option.some.inj h2).symm
theorem vx_callSW (X : Stand p l e R s m args below meth c T locs cells slots) (hexec : p.tables.exec = Jvm.exec) {own : String} {index : Nat} {y : MethodName} {bytes : ByteArray} {maxL : Nat} {ret : Option FieldType} {hh : List (Nat × Nat × Nat × Nat)}
    (hown : s.vm.findClass own = some m.cls) (hlink : (Cond.methodLink own index y).before args s = true) (hstat : (Cond.static y).before args s = true) (hinit : (Cond.initialized y.cls).before args s = true)
    (hcode : (Cond.codeWith y bytes maxL ret hh).before args s = true) (hy : y.cls ≠ "java/lang/invoke/MethodHandle" ∧ y.cls ≠ "java/lang/invoke/VarHandle")
    {W9 : Nat} {Pre : Pt → Array Value → Prop} {Post : Pt → Array Value → Option Value → Pt → Prop} (hK : Back l R p e below s args y 3 W9 Pre Post)
    {g : JFrame} (hg : g.method = m) (hsize : g.locals.size = c.maxLocals) {argsL rest : List Value} (hlen : ∀ sig, parseMethodDescriptor y.desc = some sig → argsL.length = sig.parameters.length)
    (hstack : g.stack = argsL.reverse ++ rest) (hW : 2 * g.monitorRoom + (rest.map fun v => v.category).sum ≤ W9) (hdg : decode c.code g.pc = .ok (.invokestatic index, 3))
    (hpre : ∀ vm₁, s.WarmedH vm₁ → Pre ⟨T.setVm vm₁, locs, cells, slots⟩ argsL.toArray) :
    ∃ (v : Option Value) (vm₁ : Vm) (B : Pt), s.WarmedH vm₁ ∧ Stand p l e R s m args below meth c B.U B.locs B.cells B.slots ∧ Post ⟨T.setVm vm₁, locs, cells, slots⟩ argsL.toArray v B ∧
      ∀ target, Steps p.tables e below (B.U.setTop { g with pc := g.pc + 3, stack := v.toList ++ rest }) target → Steps p.tables e below (T.setTop g) target := by
  obtain ⟨mk, methM, cM, hnamed, hmethM, -, -, -, -, -, -, hsigM⟩ := Cond.codeWith_spec hcode
  have hstatic : methM.isStatic = true := Cond.static_spec hnamed hmethM hstat
  obtain ⟨kP, hkP, -⟩ := className_of_methodNamed hnamed
  have hinitP : kP.init = .initialized := Cond.initialized_spec (findClass_of_methodNamed hnamed) hkP hinit
  obtain ⟨vm₁, X₁, hstep₁⟩ := X.invokestatic hexec hown hlink hnamed hmethM hstatic hkP hinitP hy (g := g) hg (argsL := argsL) (rest := rest) (hlen _ hsigM) hstack hdg
  obtain ⟨v, B, X', hpost, hsteps⟩ := hK m meth c ⟨T.setVm vm₁, locs, cells, slots⟩ { g with stack := rest } (.invokestatic index) mk argsL.toArray X₁ hg hsize hdg hW (X₁.named hnamed) (hpre vm₁ X₁.warmed)
  exact ⟨v, vm₁, B, X₁.warmed, X', hpost, fun target h => hstep₁ _ fun acts => by rw [doInvoke_state]; exact hsteps.trans h⟩
theorem vx_runSW {y : MethodName} {bytes cc : ByteArray} {maxL nL mc ms n index : Nat} {ret : Option FieldType} {hh : List (Nat × Nat × Nat × Nat)} {ws : List Cond} {rm : Room} {Pc : Array Value → State → Prop} {Qc : Array Value → State → Outcome → State → Prop} {free : Addr → Prop} {Ts : List Cond} {own : String} {As rest : List Value} {g : JFrame}
    (S : CallFix p m c cc nL s args Ts own) (hM : Met l y ws rm Pc Qc mc ms free) (cw : vx_CSW R s args own index y bytes maxL ret hh ws rm mc ms n) (hp : PreS s H Pc As)
    (hg : g.method = m) (hn : As.length = n) (hsize : g.locals.size = nL) (hstack : g.stack = As.reverse ++ rest) (hW : 2 * g.monitorRoom + (rest.map fun v => v.category).sum ≤ 8) (hdg : decode cc g.pc = .ok (.invokestatic index, 3)) (hf : cells + mc ≤ R.cells ∧ slots + ms ≤ R.slots) :
    va_Run p l e R s m args below meth c H locs cells slots mc ms g rest (Qc As.toArray) (free) := by
  obtain ⟨⟨hrc, hrs, hfr, hlo, hws, hcw⟩, hcode, hini, hy, hlen, hl, hstt⟩ := cw
  have hK : Back l R p e below s args y 3 8 (PreOf R mc ms Pc) (PostOf Qc mc ms free) := va_backW (hh := hh) (bytes := bytes) (maxL := maxL) (ret := ret) hM hp.1 hrc hrs hfr hlo hws hcw (fun a' U hW => word_at hW (Or.inl (by first | rfl | simp [Cond.onTables, Cond.keeps, Cond.steady])) hini)
  obtain ⟨hx, hb, hml, ho, -⟩ := S
  intro T hT X
  obtain ⟨v, vm₁, ⟨U', l2, c2, s2⟩, hW₁, X', ⟨g', mk, t, L, e1, e2, hq, h1, hL, h2, h3⟩, st⟩ := vx_callSW X hx (hh := hh) (bytes := bytes) (maxL := maxL) (ret := ret) ho hl hstt hini hcode hy hK hg (hsize.trans hml.symm) (argsL := As) (rest := rest) (fun sig h => hn.trans (hlen sig h)) hstack hW (by rw [hb]; exact hdg)
    (fun vm₁ hW₁ => ⟨hf.1, hf.2, hp.2 (T.setVm vm₁) hT hW₁⟩)
  dsimp only [Pt.U, Pt.locs, Pt.cells, Pt.slots] at X' e1 e2 h1 h2 h3 st
  subst h1; subst h2; subst h3
  exact ⟨v, (T.setVm vm₁).calling g' mk As.toArray, t, U', L, hT, X', hL, e1, e2, hq, st⟩
/-- not caught here, past rows that name other classes: it goes on to the caller -/
theorem vx_outP {p : Program} {l : Launch} {e : Env} {R : Room} {s : State} {m : MethodId} {args : Array Value} {below : List Frame} {meth : Method} {c : Code} {H : Heap} {locs : List Loc} {cells slots : Nat} {free : Addr → Prop} {ls : Array Slot} {rest : List Value} {Qc : Array Value → State → Outcome → State → Prop} {XC : String → State → State → Prop}
    {pc : Nat} {own E : String} {ce : Cell} {q : Addr} {mc ms : Nat} (hown : s.vm.findClass own = some m.cls) (hlocks : meth.locks = false)
    (hpass : ∀ z ∈ c.exceptionTable.toList, covers z pc = false ∨ (z.catchType ≠ 0 ∧ ∃ nm : String, (Cond.classLink own z.catchType nm).before args s = true ∧ va_Nc E nm s)) (hcell : H[q]? = some ce) (hv : ce.vm = .none) (hcl : s.vm.findClass E = some ce.cls)
    (hx : ∀ t : State, t.heap = H → s.vm.Alike t.vm → XC E s t) (hf : ∀ z ∈ locs, free z.base) (hc : cells ≤ mc) (hs : slots ≤ ms) :
    vx_W p l e R s m args below meth c H locs cells slots (vx_MQ below Qc XC args s mc ms free) (F0 m pc ls rest) q := by
  intro T hT X
  have hpl : e.platform.magicAccessors = ({} : Platform).magicAccessors := by rw [X.admits.platform]
  obtain ⟨vm', hW', X', st⟩ := X.outThrough hlocks q (g := F0 m pc ls rest) rfl rfl rfl (cell := ce) (by rw [hT]; exact hcell) (by rw [hv]; rfl)
    (by obtain ⟨k9, h9, -⟩ := Vm.findClass_spec hcl; exact ⟨k9, h9⟩) (fun z hz => by
      rcases hpass z hz with h | ⟨hz0, nm, hl1, hn1⟩
      · exact Or.inl h
      · obtain ⟨c6, hc6, hcl6⟩ := Cond.classLink_spec hown hl1 e.platform hpl
        obtain ⟨a8, b8, h1, h2, h3⟩ := hn1
        cases Option.some.inj (h1.symm.trans hcl)
        cases Option.some.inj (h2.symm.trans hc6)
        exact Or.inr ⟨hz0, _, hcl6, h3⟩)
  obtain ⟨g₀, hfr⟩ := X'.frames_eq
  have hcell9 : ((T.setVm vm').setFrames (.throwing q :: below)).heap[q]? = some ce := by
    show T.heap[q]? = some ce
    rw [hT]; exact hcell
  have hend : Ended ((T.setVm vm').setFrames (.throwing q :: below)) below (.threw q) := State.frames_setFrames _ (State.cur_lt_of_frames hfr)
  refine ⟨(T.setVm vm').setFrames (.throwing q :: below), ?_, .threw q, X'.here.running, hend, Or.inr ⟨q, rfl, E, ce, locs, hx _ hT (X'.ends _).1.alike, hcell9, hv, hcl, (X'.ends _).1, (X'.ends _).2.mono hc hs, hf⟩⟩
  rw [X.pushThrowing_eq]
  exact st
/-- a thing of a world lies in the heap -/
theorem vx_lt {D : va_G} {cl : List vw_C} {ws : va_W} {H1 : Heap} (h : va_P D cl ws H1) {k : Nat} {q : Nat × va_E} (hk : ws[k]? = some q) : q.1 < H1.size := (h k q hk).lt
end VXS
/-! ===== END ===== -/
/-! ===== BEGIN methods with a table of their own: called by a name, returning or throwing ===== -/
section VXH
/-! vx_backW, vx_callVX, vx_callSX, vx_callVW, vx_runVW, vx_runVX, vx_runSX, vx_ofWH follow the same proofs as their sisters above (Free/Laws.lean, Shelf42/LK1.lean); vx_outP calls Shelf42/NT130.lean (outThrough). -/
section
variable {l : Launch} {R : Room} {p : Program} {e : Env} {below : List Frame} {s : State} {sargs : Array Value} {y : MethodName} {len W9 : Nat}
theorem vx_backW {ws : List Cond} {rm : Room} {Pc : Array Value → State → Prop} {Qc : Array Value → State → Outcome → State → Prop} {XC : String → State → State → Prop} {mc ms : Nat} {free : Addr → Prop} {bytes : ByteArray} {maxL : Nat} {ret : Option FieldType} {hh : List (Nat × Nat × Nat × Nat)}
    (hM : vx_Met l y ws rm Pc Qc XC mc ms free) (hblind : FrameBlind Pc) (hrc : rm.cells = mc) (hrs : rm.slots = ms)
    (hframes : rm.frames + 1 ≤ R.frames) (hlocals : W9 + (maxL + 11) + rm.locals ≤ R.locals)
    (hws : ∀ w ∈ ws, ∀ a' U, s.WarmedH U.vm → w.before a' U = true) (hcode : Cond.codeWith y bytes maxL ret hh ∈ ws) (hinit : ∀ a' U, s.WarmedH U.vm → (Cond.initialized y.cls).before a' U = true) :
    vx_Back l R p e below s sargs y len W9 (PreOf R mc ms Pc) (PostOf Qc mc ms free) (vx_Post XC mc ms free) := by
  intro m meth c A g ig mk a X hg hsize hdg hW hn hp
  have h1 : (headSpec ws rm).pre.before a A.U = true := atoms_intro fun w hw => hws w hw _ _ X.warmed
  have h2 : (Cond.codeWith y bytes maxL ret hh).before a A.U = true := hws _ hcode _ _ X.warmed
  have h3 : (Cond.initialized y.cls).before a A.U = true := hinit _ _ X.warmed
  have h4 : A.cells + (headSpec ws rm).room.cells ≤ R.cells := by rw [show (headSpec ws rm).room.cells = mc from hrc]; exact hp.1
  have h5 : A.slots + (headSpec ws rm).room.slots ≤ R.slots := by rw [show (headSpec ws rm).room.slots = ms from hrs]; exact hp.2.1
  have hPc : Pc a (A.U.calling g mk a) := hblind _ _ _ _ hp.2.2
  obtain ⟨U, Ls, c0, s0⟩ := A
  dsimp only [Pt.U, Pt.locs, Pt.cells, Pt.slots] at h1 h2 h3 h4 h5 X hn hPc ⊢
  obtain ⟨m9, methY, cY, hn9, hmY, hcY, -, hlY, -⟩ := Cond.codeWith_spec h2
  cases Option.some.inj (hn9.symm.trans hn)
  obtain ⟨kY, hkY, -⟩ := className_of_methodNamed hn
  have hinitY : kY.init = .initialized := Cond.initialized_spec (findClass_of_methodNamed hn) hkY h3
  have h : At U g.method c below := by rw [hg]; exact X.here
  have hlocals9 : W9 + (maxL + 11) + (headSpec ws rm).room.locals ≤ R.locals := hlocals
  have happ : (headSpec ws rm).appliesLoose y e.platform (U.calling g mk a) = true :=
    Spec.appliesLoose_calling (g := g) h hdg hn hkY hinitY
      (X.room_calling (g := g) (R' := (headSpec ws rm).room) hsize hmY hcY hframes (by rw [hlY]; omega) h4 h5) h1
  obtain ⟨mid, hmid⟩ := h.above
  have hfr : (U.setTop g).frames = (.java g :: mid) ++ below := by rw [State.frames_setTop' g h.top, hmid]; rfl
  obtain ⟨o, s₂, hsteps, -, hend, hq⟩ := Steps.callFree hM p X.admits X.cas X.clock (acts := []) hfr happ hPc trivial
  have hq' : vx_Q Qc XC mc ms free a (U.calling g mk a) o s₂ := hq
  rw [State.frames_setTop' g h.top] at hend
  obtain ⟨g₀, hg0⟩ := Option.isSome_iff_exists.mp h.top
  obtain ⟨r, hr⟩ := State.topJava?_eq_some.mp hg0
  have hr' : (({ U with heap := s₂.heap, slotsUsed := s₂.slotsUsed } : State).setVm s₂.vm).frames = .java g₀ :: r := hr
  rcases hq' with ⟨hqc, L, hfe, hL⟩ | ⟨q, rfl, E, ce, L, hx, hce, hcv, hcl, hW₂, hsm, hL⟩
  · obtain ⟨⟨v, rfl⟩, hW₂, e2, q2, q3, q4, q5, q6⟩ := id hfe
    have e3 : s₂ = ({ (U.calling g mk a).setFrames s₂.frames with heap := s₂.heap, slotsUsed := s₂.slotsUsed } : State).setVm s₂.vm := by
      have : s₂ = ({ s₂ with vm := (U.calling g mk a).vm } : State).setVm s₂.vm := rfl
      rw [e2] at this
      exact this
    obtain ⟨c₂, i₂, len₂, hc₂, hd₂, hf₂⟩ := hend
    have hW' : U.WarmedH s₂.vm := hW₂
    have hcc : c₂ = c := by
      have h1 : s₂.code? g.method = U.code? g.method := by
        rw [State.code?_eq, State.code?_eq, hW'.alike.method?]
      exact Option.some.inj (hc₂.symm.trans (h1.trans h.code))
    subst hcc
    have hlen : len₂ = len := by rw [hdg] at hd₂; cases hd₂; rfl
    subst hlen
    have hs₂ : s₂ = (({ U with heap := s₂.heap, slotsUsed := s₂.slotsUsed } : State).setVm s₂.vm).setTop { g with pc := g.pc + len₂, stack := v.toList ++ g.stack } := by
      refine e3.trans ?_
      rw [hf₂, State.calling_eq h.top, State.setFrames_setFrames, State.setTop_of_frames _ hr', hr]
      rfl
    have hsame : U.sameButNew ({ U with heap := s₂.heap, slotsUsed := s₂.slotsUsed } : State) L mc ms := by
      refine ⟨?_, q2, q3, q4, q5, q6⟩
      obtain ⟨t, ht, -⟩ := State.frames_cons hr
      show ({ U with heap := s₂.heap, slotsUsed := s₂.slotsUsed } : State) = { U.setFrames U.frames with heap := s₂.heap, slotsUsed := s₂.slotsUsed }
      rw [State.setFrames_self ht]
    subst hg
    refine Or.inl ⟨v, ⟨(({ U with heap := s₂.heap, slotsUsed := s₂.slotsUsed } : State).setVm s₂.vm), Ls ++ L, c0 + mc, s0 + ms⟩,
      ⟨X.admits, X.cas, X.clock, X.frames, X.room, X.hears, X.method, X.code, (X.here.setHeapUsed s₂.heap s₂.slotsUsed).setVm hW'.alike, X.tail, State.WarmedH.trans X.warmed hW', X.limits, X.bytes, X.same.trans (hsame.setVm s.vm)⟩,
      ⟨g, mk, s₂, L, rfl, rfl, hqc, rfl, hL, rfl, rfl⟩, ?_⟩
    show Steps p.tables e below _ ((({ U with heap := s₂.heap, slotsUsed := s₂.slotsUsed } : State).setVm s₂.vm).setTop { g with pc := g.pc + len₂, stack := v.toList ++ g.stack })
    rw [← hs₂]
    exact hsteps
  · obtain ⟨e2, q2, q3, q4, q5, q6⟩ := id hsm
    have e3 : s₂ = ({ (U.calling g mk a).setFrames s₂.frames with heap := s₂.heap, slotsUsed := s₂.slotsUsed } : State).setVm s₂.vm := by
      have : s₂ = ({ s₂ with vm := (U.calling g mk a).vm } : State).setVm s₂.vm := rfl
      rw [e2] at this
      exact this
    have hf₂ : s₂.frames = .throwing q :: .java g :: U.frames.tail := hend
    have hW' : U.WarmedH s₂.vm := hW₂
    have hs₂ : s₂ = ((({ U with heap := s₂.heap, slotsUsed := s₂.slotsUsed } : State).setVm s₂.vm).setTop g).pushFrame (.throwing q) := by
      refine e3.trans ?_
      rw [hf₂, State.calling_eq h.top, State.setFrames_setFrames, State.pushFrame, State.frames_setTop _ hr', State.setTop_of_frames _ hr', State.setFrames_setFrames, hr]
      rfl
    have hsame : U.sameButNew ({ U with heap := s₂.heap, slotsUsed := s₂.slotsUsed } : State) L mc ms := by
      refine ⟨?_, q2, q3, q4, q5, q6⟩
      obtain ⟨t, ht, -⟩ := State.frames_cons hr
      show ({ U with heap := s₂.heap, slotsUsed := s₂.slotsUsed } : State) = { U.setFrames U.frames with heap := s₂.heap, slotsUsed := s₂.slotsUsed }
      rw [State.setFrames_self ht]
    subst hg
    refine Or.inr ⟨q, ⟨(({ U with heap := s₂.heap, slotsUsed := s₂.slotsUsed } : State).setVm s₂.vm), Ls ++ L, c0 + mc, s0 + ms⟩,
      ⟨X.admits, X.cas, X.clock, X.frames, X.room, X.hears, X.method, X.code, (X.here.setHeapUsed s₂.heap s₂.slotsUsed).setVm hW'.alike, X.tail, State.WarmedH.trans X.warmed hW', X.limits, X.bytes, X.same.trans (hsame.setVm s.vm)⟩,
      ⟨g, mk, s₂, L, E, ce, rfl, rfl, hx, hce, hcv, hcl, rfl, hL, rfl, rfl⟩, ?_⟩
    show Steps p.tables e below _ (((({ U with heap := s₂.heap, slotsUsed := s₂.slotsUsed } : State).setVm s₂.vm).setTop g).pushFrame (.throwing q))
    rw [← hs₂]
    exact hsteps
end
variable {p : Program} {l : Launch} {e : Env} {R : Room} {s : State} {m : MethodId} {args : Array Value} {below : List Frame} {meth : Method} {c : Code} {T : State} {H : Heap} {locs : List Loc} {cells slots : Nat}
theorem vx_callVX (X : Stand p l e R s m args below meth c T locs cells slots) (hexec : p.tables.exec = Jvm.exec) {own C : String} {index : Nat} {y : MethodName} {bytes : ByteArray} {maxL : Nat} {ret : Option FieldType} {hh : List (Nat × Nat × Nat × Nat)}
    (hown : s.vm.findClass own = some m.cls) (hlink : (Cond.methodLink own index y).before args s = true) (hinst : (Cond.instanceMethod y).before args s = true) (hsel : (Cond.selects C y y).before args s = true)
    (hcode : (Cond.codeWith y bytes maxL ret hh).before args s = true) (hy : y.cls ≠ "java/lang/invoke/MethodHandle" ∧ y.cls ≠ "java/lang/invoke/VarHandle")
    {W9 : Nat} {Pre : Pt → Array Value → Prop} {Post : Pt → Array Value → Option Value → Pt → Prop} {PostX : Pt → Array Value → Addr → Pt → Prop} (hK : vx_Back l R p e below s args y 3 W9 Pre Post PostX)
    {b : Addr} {cellB : Cell} (hcell : T.heap[b]? = some cellB) (hobj : cellB.vm.isStatics = false) (hcls : s.vm.findClass C = some cellB.cls)
    {g : JFrame} (hg : g.method = m) (hsize : g.locals.size = c.maxLocals) {argsL rest : List Value} (hlen : ∀ sig, parseMethodDescriptor y.desc = some sig → argsL.length = sig.parameters.length)
    (hstack : g.stack = argsL.reverse ++ .ref b :: rest) (hW : 2 * g.monitorRoom + (rest.map fun v => v.category).sum ≤ W9) (hdg : decode c.code g.pc = .ok (.invokevirtual index, 3))
    (hpre : ∀ vm₁, s.WarmedH vm₁ → Pre ⟨T.setVm vm₁, locs, cells, slots⟩ (Value.ref b :: argsL).toArray) :
    (∃ (v : Option Value) (vm₁ : Vm) (B : Pt), s.WarmedH vm₁ ∧ Stand p l e R s m args below meth c B.U B.locs B.cells B.slots ∧ Post ⟨T.setVm vm₁, locs, cells, slots⟩ (Value.ref b :: argsL).toArray v B ∧
      ∀ target, Steps p.tables e below (B.U.setTop { g with pc := g.pc + 3, stack := v.toList ++ rest }) target → Steps p.tables e below (T.setTop g) target) ∨
    (∃ (q : Addr) (vm₁ : Vm) (B : Pt), s.WarmedH vm₁ ∧ Stand p l e R s m args below meth c B.U B.locs B.cells B.slots ∧ PostX ⟨T.setVm vm₁, locs, cells, slots⟩ (Value.ref b :: argsL).toArray q B ∧
      Steps p.tables e below (T.setTop g) ((B.U.setTop { g with stack := rest }).pushFrame (.throwing q))) := by
  obtain ⟨mk, methM, hnamed, hmethM, hstM, habM⟩ := Cond.instanceMethod_spec hinst
  obtain ⟨m8, methM', cM, hn8, hmethM', -, -, -, -, -, -, hsigM⟩ := Cond.codeWith_spec hcode
  cases Option.some.inj (hn8.symm.trans hnamed)
  cases hmethM.symm.trans hmethM'
  obtain ⟨c2, r2, m2, q1, q2, q3, q4, kP, hkP, hkPi⟩ := Cond.selects_spec hsel
  cases hcls.symm.trans q1
  cases (State.methodFound?_of_named hnamed hy).symm.trans q2
  cases hnamed.symm.trans q3
  have hselP : selectMethod e.platform s.vm cellB.cls mk = .method mk := by rw [Launch.admits_selectMethod X.admits]; exact q4
  obtain ⟨vm₁, X₁, hstep₁⟩ := X.invokevirtual hexec hown hlink hnamed hmethM hstM hkP hkPi hy (a := b) (cell := cellB) hcell
    (fun z h => by rw [h] at hobj; cases hobj) hselP hmethM habM hkP hkPi (g := g) hg (argsL := argsL) (rest := rest) (hlen _ hsigM) hstack hdg
  rcases hK m meth c ⟨T.setVm vm₁, locs, cells, slots⟩ { g with stack := rest } (.invokevirtual index) mk (Value.ref b :: argsL).toArray X₁ hg hsize hdg hW (X₁.named hnamed) (hpre vm₁ X₁.warmed) with ⟨v, B, X', hpost, hsteps⟩ | ⟨q, B, X', hpost, hsteps⟩
  · exact Or.inl ⟨v, vm₁, B, X₁.warmed, X', hpost, fun target h => hstep₁ _ fun acts => by rw [doInvoke_state]; exact hsteps.trans h⟩
  · exact Or.inr ⟨q, vm₁, B, X₁.warmed, X', hpost, hstep₁ _ fun acts => by rw [doInvoke_state]; exact hsteps⟩
theorem vx_callSX (X : Stand p l e R s m args below meth c T locs cells slots) (hexec : p.tables.exec = Jvm.exec) {own : String} {index : Nat} {y : MethodName} {bytes : ByteArray} {maxL : Nat} {ret : Option FieldType} {hh : List (Nat × Nat × Nat × Nat)}
    (hown : s.vm.findClass own = some m.cls) (hlink : (Cond.methodLink own index y).before args s = true) (hstat : (Cond.static y).before args s = true) (hinit : (Cond.initialized y.cls).before args s = true)
    (hcode : (Cond.codeWith y bytes maxL ret hh).before args s = true) (hy : y.cls ≠ "java/lang/invoke/MethodHandle" ∧ y.cls ≠ "java/lang/invoke/VarHandle")
    {W9 : Nat} {Pre : Pt → Array Value → Prop} {Post : Pt → Array Value → Option Value → Pt → Prop} {PostX : Pt → Array Value → Addr → Pt → Prop} (hK : vx_Back l R p e below s args y 3 W9 Pre Post PostX)
    {g : JFrame} (hg : g.method = m) (hsize : g.locals.size = c.maxLocals) {argsL rest : List Value} (hlen : ∀ sig, parseMethodDescriptor y.desc = some sig → argsL.length = sig.parameters.length)
    (hstack : g.stack = argsL.reverse ++ rest) (hW : 2 * g.monitorRoom + (rest.map fun v => v.category).sum ≤ W9) (hdg : decode c.code g.pc = .ok (.invokestatic index, 3))
    (hpre : ∀ vm₁, s.WarmedH vm₁ → Pre ⟨T.setVm vm₁, locs, cells, slots⟩ argsL.toArray) :
    (∃ (v : Option Value) (vm₁ : Vm) (B : Pt), s.WarmedH vm₁ ∧ Stand p l e R s m args below meth c B.U B.locs B.cells B.slots ∧ Post ⟨T.setVm vm₁, locs, cells, slots⟩ argsL.toArray v B ∧
      ∀ target, Steps p.tables e below (B.U.setTop { g with pc := g.pc + 3, stack := v.toList ++ rest }) target → Steps p.tables e below (T.setTop g) target) ∨
    (∃ (q : Addr) (vm₁ : Vm) (B : Pt), s.WarmedH vm₁ ∧ Stand p l e R s m args below meth c B.U B.locs B.cells B.slots ∧ PostX ⟨T.setVm vm₁, locs, cells, slots⟩ argsL.toArray q B ∧
      Steps p.tables e below (T.setTop g) ((B.U.setTop { g with stack := rest }).pushFrame (.throwing q))) := by
  obtain ⟨mk, methM, cM, hnamed, hmethM, -, -, -, -, -, -, hsigM⟩ := Cond.codeWith_spec hcode
  have hstatic : methM.isStatic = true := Cond.static_spec hnamed hmethM hstat
  obtain ⟨kP, hkP, -⟩ := className_of_methodNamed hnamed
  have hinitP : kP.init = .initialized := Cond.initialized_spec (findClass_of_methodNamed hnamed) hkP hinit
  obtain ⟨vm₁, X₁, hstep₁⟩ := X.invokestatic hexec hown hlink hnamed hmethM hstatic hkP hinitP hy (g := g) hg (argsL := argsL) (rest := rest) (hlen _ hsigM) hstack hdg
  rcases hK m meth c ⟨T.setVm vm₁, locs, cells, slots⟩ { g with stack := rest } (.invokestatic index) mk argsL.toArray X₁ hg hsize hdg hW (X₁.named hnamed) (hpre vm₁ X₁.warmed) with ⟨v, B, X', hpost, hsteps⟩ | ⟨q, B, X', hpost, hsteps⟩
  · exact Or.inl ⟨v, vm₁, B, X₁.warmed, X', hpost, fun target h => hstep₁ _ fun acts => by rw [doInvoke_state]; exact hsteps.trans h⟩
  · exact Or.inr ⟨q, vm₁, B, X₁.warmed, X', hpost, hstep₁ _ fun acts => by rw [doInvoke_state]; exact hsteps⟩
theorem vx_callVW (X : Stand p l e R s m args below meth c T locs cells slots) (hexec : p.tables.exec = Jvm.exec) {own C : String} {index : Nat} {y : MethodName} {bytes : ByteArray} {maxL : Nat} {ret : Option FieldType} {hh : List (Nat × Nat × Nat × Nat)}
    (hown : s.vm.findClass own = some m.cls) (hlink : (Cond.methodLink own index y).before args s = true) (hinst : (Cond.instanceMethod y).before args s = true) (hsel : (Cond.selects C y y).before args s = true)
    (hcode : (Cond.codeWith y bytes maxL ret hh).before args s = true) (hy : y.cls ≠ "java/lang/invoke/MethodHandle" ∧ y.cls ≠ "java/lang/invoke/VarHandle")
    {W9 : Nat} {Pre : Pt → Array Value → Prop} {Post : Pt → Array Value → Option Value → Pt → Prop} (hK : Back l R p e below s args y 3 W9 Pre Post)
    {b : Addr} {cellB : Cell} (hcell : T.heap[b]? = some cellB) (hobj : cellB.vm.isStatics = false) (hcls : s.vm.findClass C = some cellB.cls)
    {g : JFrame} (hg : g.method = m) (hsize : g.locals.size = c.maxLocals) {argsL rest : List Value} (hlen : ∀ sig, parseMethodDescriptor y.desc = some sig → argsL.length = sig.parameters.length)
    (hstack : g.stack = argsL.reverse ++ .ref b :: rest) (hW : 2 * g.monitorRoom + (rest.map fun v => v.category).sum ≤ W9) (hdg : decode c.code g.pc = .ok (.invokevirtual index, 3))
    (hpre : ∀ vm₁, s.WarmedH vm₁ → Pre ⟨T.setVm vm₁, locs, cells, slots⟩ (Value.ref b :: argsL).toArray) :
    ∃ (v : Option Value) (vm₁ : Vm) (B : Pt), s.WarmedH vm₁ ∧ Stand p l e R s m args below meth c B.U B.locs B.cells B.slots ∧ Post ⟨T.setVm vm₁, locs, cells, slots⟩ (Value.ref b :: argsL).toArray v B ∧
      ∀ target, Steps p.tables e below (B.U.setTop { g with pc := g.pc + 3, stack := v.toList ++ rest }) target → Steps p.tables e below (T.setTop g) target := by
  obtain ⟨mk, methM, hnamed, hmethM, hstM, habM⟩ := Cond.instanceMethod_spec hinst
  obtain ⟨m8, methM', cM, hn8, hmethM', -, -, -, -, -, -, hsigM⟩ := Cond.codeWith_spec hcode
  cases Option.some.inj (hn8.symm.trans hnamed)
  cases hmethM.symm.trans hmethM'
  obtain ⟨c2, r2, m2, q1, q2, q3, q4, kP, hkP, hkPi⟩ := Cond.selects_spec hsel
  cases hcls.symm.trans q1
  cases (State.methodFound?_of_named hnamed hy).symm.trans q2
  cases hnamed.symm.trans q3
  have hselP : selectMethod e.platform s.vm cellB.cls mk = .method mk := by rw [Launch.admits_selectMethod X.admits]; exact q4
  obtain ⟨vm₁, X₁, hstep₁⟩ := X.invokevirtual hexec hown hlink hnamed hmethM hstM hkP hkPi hy (a := b) (cell := cellB) hcell
    (fun z h => by rw [h] at hobj; cases hobj) hselP hmethM habM hkP hkPi (g := g) hg (argsL := argsL) (rest := rest) (hlen _ hsigM) hstack hdg
  obtain ⟨v, B, X', hpost, hsteps⟩ := hK m meth c ⟨T.setVm vm₁, locs, cells, slots⟩ { g with stack := rest } (.invokevirtual index) mk (Value.ref b :: argsL).toArray X₁ hg hsize hdg hW (X₁.named hnamed) (hpre vm₁ X₁.warmed)
  exact ⟨v, vm₁, B, X₁.warmed, X', hpost, fun target h => hstep₁ _ fun acts => by rw [doInvoke_state]; exact hsteps.trans h⟩
abbrev vx_CVW (R : Room) (s : State) (args : Array Value) (own C : String) (index : Nat) (y : MethodName) (bytes : ByteArray) (maxL : Nat) (ret : Option FieldType) (hh : List (Nat × Nat × Nat × Nat)) (ws : List Cond) (rm : Room) (mc ms n : Nat) : Prop :=
  (rm.cells = mc ∧ rm.slots = ms ∧ rm.frames + 1 ≤ R.frames ∧ 8 + (maxL + 11) + rm.locals ≤ R.locals ∧ (∀ w ∈ ws, ∀ (a' : Array Value) (U : State), s.WarmedH U.vm → w.before a' U = true) ∧ Cond.codeWith y bytes maxL ret hh ∈ ws) ∧
  (Cond.codeWith y bytes maxL ret hh).before args s = true ∧ (Cond.initialized y.cls).before args s = true ∧ (y.cls ≠ "java/lang/invoke/MethodHandle" ∧ y.cls ≠ "java/lang/invoke/VarHandle") ∧
  (∀ sig, parseMethodDescriptor y.desc = some sig → n = sig.parameters.length) ∧ (Cond.methodLink own index y).before args s = true ∧ (Cond.instanceMethod y).before args s = true ∧ (Cond.selects C y y).before args s = true
theorem vx_cwVW {own C : String} {index maxL mc ms : Nat} {y : MethodName} {bytes : ByteArray} {ret : Option FieldType} {hh : List (Nat × Nat × Nat × Nat)} {Ts ws ws' : List Cond} {rm : Room} (n : Nat) (ht : ∀ w ∈ Ts, w.before args s = true) (hT : GoodIn Ts (wsV own index C y ws)) (hw : ws = Cond.codeWith y bytes maxL ret hh :: ws') (hrc : rm.cells = mc) (hrs : rm.slots = ms)
    (hd : y.cls = C ∧ y.cls ≠ "java/lang/invoke/MethodHandle" ∧ y.cls ≠ "java/lang/invoke/VarHandle" ∧ (parseMethodDescriptor y.desc).map (fun d => d.parameters.length) = some n) (hR : rm.frames + 1 ≤ R.frames ∧ 8 + (maxL + 11) + rm.locals ≤ R.locals) :
    vx_CVW R s args own C index y bytes maxL ret hh ws rm mc ms n := by
  obtain ⟨hC, hd⟩ := hd
  subst hC
  have ok : ∀ w ∈ wsV own index y.cls y ws, w.before args s = true := fun w h => ht w (hT w h).1
  have hG : GoodIn Ts ws := fun w h => hT w (by unfold wsV; exact List.mem_append_right _ h)
  have hc : Cond.codeWith y bytes maxL ret hh ∈ ws := by rw [hw]; exact List.mem_cons_self
  refine ⟨⟨hrc, hrs, hR.1, hR.2, pay_in ht hG, hc⟩, ht _ (hG _ hc).1, ok _ (by simp [wsV]), ⟨hd.1, hd.2.1⟩, fun sig h => ?_, ok _ (by simp [wsV]), ok _ (by simp [wsV]), ok _ (by simp [wsV])⟩
  have h2 := hd.2.2
  rw [h] at h2
  exact (Option.some.inj h2).symm
theorem vx_runVW {y : MethodName} {bytes cc : ByteArray} {maxL nL mc ms n index : Nat} {ret : Option FieldType} {hh : List (Nat × Nat × Nat × Nat)} {ws : List Cond} {rm : Room} {Pc : Array Value → State → Prop} {Qc : Array Value → State → Outcome → State → Prop} {free : Addr → Prop} {Ts : List Cond} {own C : String} {b : Addr} {As rest : List Value} {g : JFrame}
    (S : CallFix p m c cc nL s args Ts own) (hM : Met l y ws rm Pc Qc mc ms free) (cw : vx_CVW R s args own C index y bytes maxL ret hh ws rm mc ms n) (hp : PreV s H C b Pc As)
    (hg : g.method = m) (hn : As.length = n) (hsize : g.locals.size = nL) (hstack : g.stack = As.reverse ++ .ref b :: rest) (hW : 2 * g.monitorRoom + (rest.map fun v => v.category).sum ≤ 8) (hdg : decode cc g.pc = .ok (.invokevirtual index, 3)) (hf : cells + mc ≤ R.cells ∧ slots + ms ≤ R.slots) :
    va_Run p l e R s m args below meth c H locs cells slots mc ms g rest (Qc (Value.ref b :: As).toArray) free := by
  obtain ⟨⟨hrc, hrs, hfr, hlo, hws, hcw⟩, hcode, hini, hy, hlen, hl, hin, hse⟩ := cw
  have hK : Back l R p e below s args y 3 8 (PreOf R mc ms Pc) (PostOf Qc mc ms free) := va_backW (hh := hh) (bytes := bytes) (maxL := maxL) (ret := ret) hM hp.1 hrc hrs hfr hlo hws hcw (fun a' U hW => word_at hW (Or.inl (by first | rfl | simp [Cond.onTables, Cond.keeps, Cond.steady])) hini)
  obtain ⟨hx, hb, hml, ho, -⟩ := S
  obtain ⟨-, ⟨cellB, hcB, hoB, hclB⟩, hPc⟩ := hp
  intro T hT X
  obtain ⟨v, vm₁, ⟨U', l2, c2, s2⟩, hW₁, X', ⟨g', mk, t, L, e1, e2, hq, h1, hL, h2, h3⟩, st⟩ := vx_callVW X hx (C := C) (hh := hh) (bytes := bytes) (maxL := maxL) (ret := ret) ho hl hin hse hcode hy hK (by rw [hT]; exact hcB) hoB hclB hg (hsize.trans hml.symm) (argsL := As) (rest := rest) (fun sig h => hn.trans (hlen sig h)) hstack hW (by rw [hb]; exact hdg)
    (fun vm₁ hW₁ => ⟨hf.1, hf.2, hPc (T.setVm vm₁) hT hW₁⟩)
  dsimp only [Pt.U, Pt.locs, Pt.cells, Pt.slots] at X' e1 e2 h1 h2 h3 st
  subst h1; subst h2; subst h3
  exact ⟨v, (T.setVm vm₁).calling g' mk (Value.ref b :: As).toArray, t, U', L, hT, X', hL, e1, e2, hq, st⟩
section
variable {y : MethodName} {bytes cc : ByteArray} {maxL nL mc ms n index : Nat} {ret : Option FieldType} {ws : List Cond} {rm : Room} {Pc : Array Value → State → Prop} {Qc : Array Value → State → Outcome → State → Prop} {XC : String → State → State → Prop} {free : Addr → Prop} {Ts : List Cond} {own C : String} {b : Addr} {As rest : List Value} {g : JFrame}
theorem vx_runVX {hh : List (Nat × Nat × Nat × Nat)} (S : CallFix p m c cc nL s args Ts own) (hM : vx_Met l y ws rm Pc Qc XC mc ms free) (cw : vx_CVW R s args own C index y bytes maxL ret hh ws rm mc ms n) (hp : PreV s H C b Pc As)
    (hg : g.method = m) (hn : As.length = n) (hsize : g.locals.size = nL) (hstack : g.stack = As.reverse ++ .ref b :: rest) (hW : 2 * g.monitorRoom + (rest.map fun v => v.category).sum ≤ 8) (hdg : decode cc g.pc = .ok (.invokevirtual index, 3)) (hf : cells + mc ≤ R.cells ∧ slots + ms ≤ R.slots) :
    vx_Run p l e R s m args below meth c H locs cells slots mc ms g rest (Qc (Value.ref b :: As).toArray) XC free := by
  obtain ⟨⟨hrc, hrs, hfr, hlo, hws, hcw⟩, hcode, hini, hy, hlen, hl, hin, hse⟩ := cw
  have hK : vx_Back l R p e below s args y 3 8 (PreOf R mc ms Pc) (PostOf Qc mc ms free) (vx_Post XC mc ms free) := vx_backW (hh := hh) (bytes := bytes) (maxL := maxL) (ret := ret) hM hp.1 hrc hrs hfr hlo hws hcw (fun a' U hW => word_at hW (Or.inl (by first | rfl | simp [Cond.onTables, Cond.keeps, Cond.steady])) hini)
  obtain ⟨hx, hb, hml, ho, -⟩ := S
  obtain ⟨-, ⟨cellB, hcB, hoB, hclB⟩, hPc⟩ := hp
  intro T hT X
  rcases vx_callVX X hx (C := C) (hh := hh) (bytes := bytes) (maxL := maxL) (ret := ret) ho hl hin hse hcode hy hK (by rw [hT]; exact hcB) hoB hclB hg (hsize.trans hml.symm) (argsL := As) (rest := rest) (fun sig h => hn.trans (hlen sig h)) hstack hW (by rw [hb]; exact hdg)
    (fun vm₁ hW₁ => ⟨hf.1, hf.2, hPc (T.setVm vm₁) hT hW₁⟩) with ⟨v, vm₁, ⟨U', l2, c2, s2⟩, hW₁, X', ⟨g', mk, t, L, e1, e2, hq, h1, hL, h2, h3⟩, st⟩ | ⟨q, vm₁, ⟨U', l2, c2, s2⟩, hW₁, X', ⟨g', mk, t, L, E, ce, e1, e2, hq, hce, hcv, hcl, h1, hL, h2, h3⟩, st⟩
  · dsimp only [Pt.U, Pt.locs, Pt.cells, Pt.slots] at X' e1 e2 h1 h2 h3 st
    subst h1; subst h2; subst h3
    exact Or.inl ⟨v, (T.setVm vm₁).calling g' mk (Value.ref b :: As).toArray, t, U', L, hT, X', hL, e1, e2, hq, st⟩
  · dsimp only [Pt.U, Pt.locs, Pt.cells, Pt.slots] at X' e1 e2 h1 h2 h3 st hcl
    subst h1; subst h2; subst h3
    exact Or.inr ⟨q, (T.setVm vm₁).calling g' mk (Value.ref b :: As).toArray, t, U', L, E, ce, hT, X', hL, e1, e2, hq, hce, hcv, vx_cls hW₁ hcl, st⟩
theorem vx_runSX {hh : List (Nat × Nat × Nat × Nat)} (S : CallFix p m c cc nL s args Ts own) (hM : vx_Met l y ws rm Pc Qc XC mc ms free) (cw : vx_CSW R s args own index y bytes maxL ret hh ws rm mc ms n) (hp : PreS s H Pc As)
    (hg : g.method = m) (hn : As.length = n) (hsize : g.locals.size = nL) (hstack : g.stack = As.reverse ++ rest) (hW : 2 * g.monitorRoom + (rest.map fun v => v.category).sum ≤ 8) (hdg : decode cc g.pc = .ok (.invokestatic index, 3)) (hf : cells + mc ≤ R.cells ∧ slots + ms ≤ R.slots) :
    vx_Run p l e R s m args below meth c H locs cells slots mc ms g rest (Qc As.toArray) XC free := by
  obtain ⟨⟨hrc, hrs, hfr, hlo, hws, hcw⟩, hcode, hini, hy, hlen, hl, hstt⟩ := cw
  have hK : vx_Back l R p e below s args y 3 8 (PreOf R mc ms Pc) (PostOf Qc mc ms free) (vx_Post XC mc ms free) := vx_backW (hh := hh) (bytes := bytes) (maxL := maxL) (ret := ret) hM hp.1 hrc hrs hfr hlo hws hcw (fun a' U hW => word_at hW (Or.inl (by first | rfl | simp [Cond.onTables, Cond.keeps, Cond.steady])) hini)
  obtain ⟨hx, hb, hml, ho, -⟩ := S
  intro T hT X
  rcases vx_callSX X hx (hh := hh) (bytes := bytes) (maxL := maxL) (ret := ret) ho hl hstt hini hcode hy hK hg (hsize.trans hml.symm) (argsL := As) (rest := rest) (fun sig h => hn.trans (hlen sig h)) hstack hW (by rw [hb]; exact hdg)
    (fun vm₁ hW₁ => ⟨hf.1, hf.2, hp.2 (T.setVm vm₁) hT hW₁⟩) with ⟨v, vm₁, ⟨U', l2, c2, s2⟩, hW₁, X', ⟨g', mk, t, L, e1, e2, hq, h1, hL, h2, h3⟩, st⟩ | ⟨q, vm₁, ⟨U', l2, c2, s2⟩, hW₁, X', ⟨g', mk, t, L, E, ce, e1, e2, hq, hce, hcv, hcl, h1, hL, h2, h3⟩, st⟩
  · dsimp only [Pt.U, Pt.locs, Pt.cells, Pt.slots] at X' e1 e2 h1 h2 h3 st
    subst h1; subst h2; subst h3
    exact Or.inl ⟨v, (T.setVm vm₁).calling g' mk As.toArray, t, U', L, hT, X', hL, e1, e2, hq, st⟩
  · dsimp only [Pt.U, Pt.locs, Pt.cells, Pt.slots] at X' e1 e2 h1 h2 h3 st hcl
    subst h1; subst h2; subst h3
    exact Or.inr ⟨q, (T.setVm vm₁).calling g' mk As.toArray, t, U', L, E, ce, hT, X', hL, e1, e2, hq, hce, hcv, vx_cls hW₁ hcl, st⟩
end
end VXH
theorem vx_ofWH {l : Launch} {y : MethodName} {ws ws' : List Cond} {rm : Room} {Pc : Array Value → State → Prop} {Qc : Array Value → State → Outcome → State → Prop} {XC : String → State → State → Prop} {mc ms : Nat} {free : Addr → Prop} {cc : ByteArray} {maxL : Nat} {ret : Option FieldType} {hh : List (Nat × Nat × Nat × Nat)}
    (hy : plainName y.cls = true) (hw : ws = Cond.codeWith y cc maxL ret hh :: ws')
    (body : ∀ p e s m args below meth c s₁, BodyLoose p l y (headSpec ws rm) cc maxL ret e s m args below meth c s₁ → c.maxLocals = maxL → Pc args s →
      W p l e (headSpec ws rm).room s m args below meth c s.heap [] 0 0 (vx_MQ below Qc XC args s mc ms free) (entryFrame m args maxL)) : vx_Met l y ws rm Pc Qc XC mc ms free := by
  refine MetFree.of_bodyS (code := cc) (maxLocals := maxL) (ret := ret) hy ?_ ?_
  · intro args s m h hn
    obtain ⟨m9, meth, c, hn9, h1, h2, h3, h4, -, h5, h6, -⟩ := Cond.codeWith_spec (atoms_spec (ws := ws) h _ (by rw [hw]; exact List.mem_cons_self))
    cases hn.symm.trans hn9
    exact ⟨meth, c, h1, h2, h3, h4, h5, h6⟩
  · intro p e s m args below meth c s₁ B hml hP _
    have hh0 : s₁.heap = s.heap := by rw [B.state]; rfl
    obtain ⟨t, a1, o, b1, b2, b3⟩ := body p e s m args below meth c s₁ B hml hP s₁ hh0 (Stand.of_body B)
    exact ⟨t, o, a1, b1, b2, b3⟩
/-! ===== END ===== -/
end
section
/-! ===== BEGIN printed: names, fields, word lists, decode rows ===== -/
def RX0 : String := "SearchKeeper$Acts"
def TX0 : u_T := fun k => match k with
  | 0 => ("SearchKeeper$Acts", "order", "[I", true)
  | 1 => ("SearchKeeper$Acts", "kinds", "[I", true)
  | 2 => ("SearchKeeper$Acts", "arePutOff", "[Z", true)
  | _ => ("SearchKeeper$Acts", "many", "I", false)
def tyX0 : Nat → FieldType := fun k => match k with
  | 0 => .array .int
  | 1 => .array .int
  | 2 => .array .boolean
  | _ => .int
abbrev wsX00 : List Cond := u_ws RX0 TX0 4
theorem nmX0 : ∀ a, a < 4 → ∀ b, b < 4 → a ≠ b → (TX0 a).2.1 ≠ (TX0 b).2.1 := by decide +kernel
theorem tyX0_ok : ∀ k, k < 4 → parseFieldDescriptor (TX0 k).2.2.1 = some (tyX0 k) := by decide +kernel
abbrev cX0_init : ByteArray := prog_2_method_1_code
def yX0_init : MethodName := ⟨RX0, "<init>", "()V"⟩
abbrev cX0_count : ByteArray := prog_2_method_2_code
def yX0_count : MethodName := ⟨RX0, "count", "()I"⟩
abbrev cX0_kindOf : ByteArray := prog_2_method_3_code
def yX0_kindOf : MethodName := ⟨RX0, "kindOf", "(I)I"⟩
abbrev cX0_add : ByteArray := prog_2_method_4_code
def yX0_add : MethodName := ⟨RX0, "add", "(II)V"⟩
abbrev cX0_firstReady : ByteArray := prog_2_method_5_code
def yX0_firstReady : MethodName := ⟨RX0, "firstReady", "()I"⟩
abbrev cX0_takeAway : ByteArray := prog_2_method_6_code
def yX0_takeAway : MethodName := ⟨RX0, "takeAway", "(I)V"⟩
abbrev cX0_putOff : ByteArray := prog_2_method_7_code
def yX0_putOff : MethodName := ⟨RX0, "putOff", "(I)V"⟩
abbrev cX0_endWork : ByteArray := prog_2_method_8_code
def yX0_endWork : MethodName := ⟨RX0, "endWork", "()V"⟩
def RX1 : String := "SearchKeeper$Crawl"
def TX1 : u_T := fun k => match k with
  | 0 => ("SearchKeeper$Crawl", "waiting", "[I", true)
  | 1 => ("SearchKeeper$Crawl", "isWaiting", "[Z", true)
  | 2 => ("SearchKeeper$Crawl", "wasMet", "[Z", true)
  | 3 => ("SearchKeeper$Crawl", "many", "I", false)
  | _ => ("SearchKeeper$Crawl", "goesOn", "Z", false)
def tyX1 : Nat → FieldType := fun k => match k with
  | 0 => .array .int
  | 1 => .array .boolean
  | 2 => .array .boolean
  | 3 => .int
  | _ => .boolean
abbrev wsX10 : List Cond := u_ws RX1 TX1 5
theorem nmX1 : ∀ a, a < 5 → ∀ b, b < 5 → a ≠ b → (TX1 a).2.1 ≠ (TX1 b).2.1 := by decide +kernel
theorem tyX1_ok : ∀ k, k < 5 → parseFieldDescriptor (TX1 k).2.2.1 = some (tyX1 k) := by decide +kernel
abbrev cX1_init : ByteArray := prog_3_method_1_code
def yX1_init : MethodName := ⟨RX1, "<init>", "()V"⟩
abbrev cX1_startAnew : ByteArray := prog_3_method_2_code
def yX1_startAnew : MethodName := ⟨RX1, "startAnew", "(I)V"⟩
abbrev cX1_letWait : ByteArray := prog_3_method_3_code
def yX1_letWait : MethodName := ⟨RX1, "letWait", "(I)V"⟩
abbrev cX1_takeFirst : ByteArray := prog_3_method_4_code
def yX1_takeFirst : MethodName := ⟨RX1, "takeFirst", "()I"⟩
abbrev cX1_meet : ByteArray := prog_3_method_5_code
def yX1_meet : MethodName := ⟨RX1, "meet", "(I)V"⟩
abbrev cX1_hasMet : ByteArray := prog_3_method_6_code
def yX1_hasMet : MethodName := ⟨RX1, "hasMet", "(I)Z"⟩
def RX2 : String := "SearchKeeper$Entries"
def TX2 : u_T := fun k => match k with
  | 0 => ("SearchKeeper$Entries", "tree", "LSearchKeeper$Tree;", true)
  | 1 => ("SearchKeeper$Entries", "roots", "LSearchKeeper$Roots;", true)
  | 2 => ("SearchKeeper$Entries", "areKept", "[Z", true)
  | 3 => ("SearchKeeper$Entries", "parents", "[I", true)
  | 4 => ("SearchKeeper$Entries", "names", "[C", true)
  | 5 => ("SearchKeeper$Entries", "editions", "[I", true)
  | 6 => ("SearchKeeper$Entries", "lengths", "[I", true)
  | 7 => ("SearchKeeper$Entries", "words", "[[I", true)
  | 8 => ("SearchKeeper$Entries", "gotEdition", "[Z", true)
  | _ => ("SearchKeeper$Entries", "areGoing", "[Z", true)
def tyX2 : Nat → FieldType := fun k => match k with
  | 0 => .object "SearchKeeper$Tree"
  | 1 => .object "SearchKeeper$Roots"
  | 2 => .array .boolean
  | 3 => .array .int
  | 4 => .array .char
  | 5 => .array .int
  | 6 => .array .int
  | 7 => .array (.array .int)
  | 8 => .array .boolean
  | _ => .array .boolean
abbrev wsX20 : List Cond := u_ws RX2 TX2 10
theorem nmX2 : ∀ a, a < 10 → ∀ b, b < 10 → a ≠ b → (TX2 a).2.1 ≠ (TX2 b).2.1 := by decide +kernel
theorem tyX2_ok : ∀ k, k < 10 → parseFieldDescriptor (TX2 k).2.2.1 = some (tyX2 k) := by decide +kernel
abbrev cX2_init : ByteArray := prog_4_method_1_code
def yX2_init : MethodName := ⟨RX2, "<init>", "(LSearchKeeper$Tree;LSearchKeeper$Roots;)V"⟩
abbrev cX2_has : ByteArray := prog_4_method_2_code
def yX2_has : MethodName := ⟨RX2, "has", "(I)Z"⟩
abbrev cX2_editionOf : ByteArray := prog_4_method_3_code
def yX2_editionOf : MethodName := ⟨RX2, "editionOf", "(I)I"⟩
abbrev cX2_lengthOf : ByteArray := prog_4_method_4_code
def yX2_lengthOf : MethodName := ⟨RX2, "lengthOf", "(I)I"⟩
abbrev cX2_wordsOf : ByteArray := prog_4_method_5_code
def yX2_wordsOf : MethodName := ⟨RX2, "wordsOf", "(I)[I"⟩
abbrev cX2_count : ByteArray := prog_4_method_6_code
def yX2_count : MethodName := ⟨RX2, "count", "()I"⟩
abbrev cX2_isBehind : ByteArray := prog_4_method_7_code
def yX2_isBehind : MethodName := ⟨RX2, "isBehind", "(I)Z"⟩
abbrev cX2_countStale : ByteArray := prog_4_method_8_code
def yX2_countStale : MethodName := ⟨RX2, "countStale", "()I"⟩
abbrev cX2_isBelow : ByteArray := prog_4_method_9_code
def yX2_isBelow : MethodName := ⟨RX2, "isBelow", "(II)Z"⟩
abbrev cX2_keepPlace : ByteArray := prog_4_method_10_code
def yX2_keepPlace : MethodName := ⟨RX2, "keepPlace", "(I)V"⟩
abbrev cX2_keepEdition : ByteArray := prog_4_method_11_code
def yX2_keepEdition : MethodName := ⟨RX2, "keepEdition", "(II)V"⟩
abbrev cX2_takeAway : ByteArray := prog_4_method_12_code
def yX2_takeAway : MethodName := ⟨RX2, "takeAway", "(I)V"⟩
abbrev cX2_hasGotEdition : ByteArray := prog_4_method_13_code
def yX2_hasGotEdition : MethodName := ⟨RX2, "hasGotEdition", "(I)Z"⟩
abbrev cX2_endWork : ByteArray := prog_4_method_14_code
def yX2_endWork : MethodName := ⟨RX2, "endWork", "()V"⟩
def RX3 : String := "SearchKeeper$Index"
def TX3 : u_T := fun k => match k with
  | 0 => ("SearchKeeper$Index", "homes", "[I", true)
  | 1 => ("SearchKeeper$Index", "alive", "[I", true)
  | 2 => ("SearchKeeper$Index", "buried", "[I", true)
  | _ => ("SearchKeeper$Index", "many", "I", false)
def tyX3 : Nat → FieldType := fun k => match k with
  | 0 => .array .int
  | 1 => .array .int
  | 2 => .array .int
  | _ => .int
abbrev wsX30 : List Cond := u_ws RX3 TX3 4
theorem nmX3 : ∀ a, a < 4 → ∀ b, b < 4 → a ≠ b → (TX3 a).2.1 ≠ (TX3 b).2.1 := by decide +kernel
theorem tyX3_ok : ∀ k, k < 4 → parseFieldDescriptor (TX3 k).2.2.1 = some (tyX3 k) := by decide +kernel
abbrev cX3_init : ByteArray := prog_5_method_1_code
def yX3_init : MethodName := ⟨RX3, "<init>", "()V"⟩
abbrev cX3_count : ByteArray := prog_5_method_2_code
def yX3_count : MethodName := ⟨RX3, "count", "()I"⟩
abbrev cX3_countBuried : ByteArray := prog_5_method_3_code
def yX3_countBuried : MethodName := ⟨RX3, "countBuried", "()I"⟩
abbrev cX3_endWork : ByteArray := prog_5_method_4_code
def yX3_endWork : MethodName := ⟨RX3, "endWork", "(LSearchKeeper$Entries;)V"⟩
abbrev cX3_bury : ByteArray := prog_5_method_5_code
def yX3_bury : MethodName := ⟨RX3, "bury", "(I)V"⟩
abbrev cX3_addSegment : ByteArray := prog_5_method_6_code
def yX3_addSegment : MethodName := ⟨RX3, "addSegment", "(LSearchKeeper$Entries;)V"⟩
abbrev cX3_close : ByteArray := prog_5_method_7_code
def yX3_close : MethodName := ⟨RX3, "close", "(I)V"⟩
abbrev cX3_smallestPair : ByteArray := prog_5_method_8_code
def yX3_smallestPair : MethodName := ⟨RX3, "smallestPair", "()I"⟩
abbrev cX3_joinWithNext : ByteArray := prog_5_method_9_code
def yX3_joinWithNext : MethodName := ⟨RX3, "joinWithNext", "(I)V"⟩
def RX4 : String := "SearchKeeper$Keeper"
def TX4 : u_T := fun k => match k with
  | 0 => ("SearchKeeper$Keeper", "tree", "LSearchKeeper$Tree;", true)
  | 1 => ("SearchKeeper$Keeper", "roots", "LSearchKeeper$Roots;", true)
  | 2 => ("SearchKeeper$Keeper", "reader", "LSearchKeeper$Reader;", true)
  | 3 => ("SearchKeeper$Keeper", "known", "LSearchKeeper$Entries;", true)
  | 4 => ("SearchKeeper$Keeper", "list", "LSearchKeeper$Acts;", true)
  | _ => ("SearchKeeper$Keeper", "index", "LSearchKeeper$Index;", true)
def tyX4 : Nat → FieldType := fun k => match k with
  | 0 => .object "SearchKeeper$Tree"
  | 1 => .object "SearchKeeper$Roots"
  | 2 => .object "SearchKeeper$Reader"
  | 3 => .object "SearchKeeper$Entries"
  | 4 => .object "SearchKeeper$Acts"
  | _ => .object "SearchKeeper$Index"
abbrev wsX40 : List Cond := u_ws RX4 TX4 6
theorem nmX4 : ∀ a, a < 6 → ∀ b, b < 6 → a ≠ b → (TX4 a).2.1 ≠ (TX4 b).2.1 := by decide +kernel
theorem tyX4_ok : ∀ k, k < 6 → parseFieldDescriptor (TX4 k).2.2.1 = some (tyX4 k) := by decide +kernel
abbrev cX4_init : ByteArray := prog_6_method_1_code
def yX4_init : MethodName := ⟨RX4, "<init>", "(LSearchKeeper$Tree;LSearchKeeper$Roots;LSearchKeeper$Reader;LSearchKeeper$Entries;)V"⟩
abbrev cX4_countActs : ByteArray := prog_6_method_2_code
def yX4_countActs : MethodName := ⟨RX4, "countActs", "()I"⟩
abbrev cX4_countSegments : ByteArray := prog_6_method_3_code
def yX4_countSegments : MethodName := ⟨RX4, "countSegments", "()I"⟩
abbrev cX4_countDead : ByteArray := prog_6_method_4_code
def yX4_countDead : MethodName := ⟨RX4, "countDead", "()I"⟩
abbrev cX4_lookAtAllEntries : ByteArray := prog_6_method_5_code
def yX4_lookAtAllEntries : MethodName := ⟨RX4, "lookAtAllEntries", "()V"⟩
abbrev cX4_doSteps : ByteArray := prog_6_method_6_code
def yX4_doSteps : MethodName := ⟨RX4, "doSteps", "(I)I"⟩
abbrev cX4_doNext : ByteArray := prog_6_method_7_code
def yX4_doNext : MethodName := ⟨RX4, "doNext", "(I)I"⟩
abbrev cX4_hear : ByteArray := prog_6_method_8_code
def yX4_hear : MethodName := ⟨RX4, "hear", "(LSearchKeeper$Root;)V"⟩
abbrev cX4_act : ByteArray := prog_6_method_9_code
def yX4_act : MethodName := ⟨RX4, "act", "(II)I"⟩
abbrev cX4_lookAtFile : ByteArray := prog_6_method_10_code
def yX4_lookAtFile : MethodName := ⟨RX4, "lookAtFile", "(II)I"⟩
abbrev cX4_lookAtFolder : ByteArray := prog_6_method_11_code
def yX4_lookAtFolder : MethodName := ⟨RX4, "lookAtFolder", "(I)V"⟩
abbrev cX4_crawlOn : ByteArray := prog_6_method_12_code
def yX4_crawlOn : MethodName := ⟨RX4, "crawlOn", "(LSearchKeeper$Root;)V"⟩
abbrev cX4_meetAllIn : ByteArray := prog_6_method_13_code
def yX4_meetAllIn : MethodName := ⟨RX4, "meetAllIn", "(ILSearchKeeper$Crawl;)V"⟩
abbrev cX4_lookAtUnmet : ByteArray := prog_6_method_14_code
def yX4_lookAtUnmet : MethodName := ⟨RX4, "lookAtUnmet", "(LSearchKeeper$Crawl;)V"⟩
def RX5 : String := "SearchKeeper$Questions"
def TX5 : u_T := fun k => match k with
  | 0 => ("SearchKeeper$Questions", "tree", "LSearchKeeper$Tree;", true)
  | 1 => ("SearchKeeper$Questions", "roots", "LSearchKeeper$Roots;", true)
  | 2 => ("SearchKeeper$Questions", "reader", "LSearchKeeper$Reader;", true)
  | 3 => ("SearchKeeper$Questions", "known", "LSearchKeeper$Entries;", true)
  | 4 => ("SearchKeeper$Questions", "scores", "[I", true)
  | _ => ("SearchKeeper$Questions", "fresh", "[I", true)
def tyX5 : Nat → FieldType := fun k => match k with
  | 0 => .object "SearchKeeper$Tree"
  | 1 => .object "SearchKeeper$Roots"
  | 2 => .object "SearchKeeper$Reader"
  | 3 => .object "SearchKeeper$Entries"
  | 4 => .array .int
  | _ => .array .int
abbrev wsX50 : List Cond := u_ws RX5 TX5 6
theorem nmX5 : ∀ a, a < 6 → ∀ b, b < 6 → a ≠ b → (TX5 a).2.1 ≠ (TX5 b).2.1 := by decide +kernel
theorem tyX5_ok : ∀ k, k < 6 → parseFieldDescriptor (TX5 k).2.2.1 = some (tyX5 k) := by decide +kernel
abbrev cX5_init : ByteArray := prog_7_method_1_code
def yX5_init : MethodName := ⟨RX5, "<init>", "(LSearchKeeper$Tree;LSearchKeeper$Roots;LSearchKeeper$Reader;LSearchKeeper$Entries;)V"⟩
abbrev cX5_count : ByteArray := prog_7_method_2_code
def yX5_count : MethodName := ⟨RX5, "count", "(IIII)I"⟩
abbrev cX5_countAnew : ByteArray := prog_7_method_3_code
def yX5_countAnew : MethodName := ⟨RX5, "countAnew", "(IIII)I"⟩
abbrev cX5_fileAt : ByteArray := prog_7_method_4_code
def yX5_fileAt : MethodName := ⟨RX5, "fileAt", "(IIII)I"⟩
abbrev cX5_closestPlaces : ByteArray := prog_7_method_5_code
def yX5_closestPlaces : MethodName := ⟨RX5, "closestPlaces", "(III)I"⟩
abbrev cX5_countAhead : ByteArray := prog_7_method_6_code
def yX5_countAhead : MethodName := ⟨RX5, "countAhead", "(I)I"⟩
abbrev cX5_isWithinNow : ByteArray := prog_7_method_7_code
def yX5_isWithinNow : MethodName := ⟨RX5, "isWithinNow", "(II)Z"⟩
abbrev cX5_scoreOf : ByteArray := prog_7_method_8_code
def yX5_scoreOf : MethodName := ⟨RX5, "scoreOf", "(IIII)I"⟩
abbrev cX5_score : ByteArray := prog_7_method_9_code
def yX5_score : MethodName := ⟨RX5, "score", "([IIII)I"⟩
def RX6 : String := "SearchKeeper$Reader"
def TX6 : u_T := fun k => match k with
  | 0 => ("SearchKeeper$Reader", "depthLimit", "I", false)
  | _ => ("SearchKeeper$Reader", "wordLimit", "I", false)
def tyX6 : Nat → FieldType := fun k => match k with
  | 0 => .int
  | _ => .int
abbrev wsX60 : List Cond := u_ws RX6 TX6 2
theorem nmX6 : ∀ a, a < 2 → ∀ b, b < 2 → a ≠ b → (TX6 a).2.1 ≠ (TX6 b).2.1 := by decide +kernel
theorem tyX6_ok : ∀ k, k < 2 → parseFieldDescriptor (TX6 k).2.2.1 = some (tyX6 k) := by decide +kernel
abbrev cX6_init : ByteArray := prog_8_method_1_code
def yX6_init : MethodName := ⟨RX6, "<init>", "()V"⟩
abbrev cX6_takeWords : ByteArray := prog_8_method_2_code
def yX6_takeWords : MethodName := ⟨RX6, "takeWords", "([II[I)I"⟩
abbrev cX6_endOfWhole : ByteArray := prog_8_method_3_code
def yX6_endOfWhole : MethodName := ⟨RX6, "endOfWhole", "([II)I"⟩
def RX7 : String := "SearchKeeper$Root"
def TX7 : u_T := fun k => match k with
  | 0 => ("SearchKeeper$Root", "kinds", "[I", true)
  | 1 => ("SearchKeeper$Root", "nodes", "[I", true)
  | 2 => ("SearchKeeper$Root", "crawl", "LSearchKeeper$Crawl;", true)
  | 3 => ("SearchKeeper$Root", "folder", "I", false)
  | 4 => ("SearchKeeper$Root", "many", "I", false)
  | _ => ("SearchKeeper$Root", "isFlooded", "Z", false)
def tyX7 : Nat → FieldType := fun k => match k with
  | 0 => .array .int
  | 1 => .array .int
  | 2 => .object "SearchKeeper$Crawl"
  | 3 => .int
  | 4 => .int
  | _ => .boolean
abbrev wsX70 : List Cond := u_ws RX7 TX7 6
theorem nmX7 : ∀ a, a < 6 → ∀ b, b < 6 → a ≠ b → (TX7 a).2.1 ≠ (TX7 b).2.1 := by decide +kernel
theorem tyX7_ok : ∀ k, k < 6 → parseFieldDescriptor (TX7 k).2.2.1 = some (tyX7 k) := by decide +kernel
abbrev cX7_init : ByteArray := prog_9_method_1_code
def yX7_init : MethodName := ⟨RX7, "<init>", "()V"⟩
abbrev cX7_startAt : ByteArray := prog_9_method_2_code
def yX7_startAt : MethodName := ⟨RX7, "startAt", "(I)V"⟩
abbrev cX7_beginCrawl : ByteArray := prog_9_method_3_code
def yX7_beginCrawl : MethodName := ⟨RX7, "beginCrawl", "()V"⟩
abbrev cX7_tell : ByteArray := prog_9_method_4_code
def yX7_tell : MethodName := ⟨RX7, "tell", "(II)V"⟩
abbrev cX7_tellLastAgain : ByteArray := prog_9_method_5_code
def yX7_tellLastAgain : MethodName := ⟨RX7, "tellLastAgain", "()V"⟩
abbrev cX7_hasNotices : ByteArray := prog_9_method_6_code
def yX7_hasNotices : MethodName := ⟨RX7, "hasNotices", "()Z"⟩
abbrev cX7_countOrFlood : ByteArray := prog_9_method_7_code
def yX7_countOrFlood : MethodName := ⟨RX7, "countOrFlood", "()I"⟩
abbrev cX7_forgetLast : ByteArray := prog_9_method_8_code
def yX7_forgetLast : MethodName := ⟨RX7, "forgetLast", "(I)I"⟩
abbrev cX7_takeFirst : ByteArray := prog_9_method_9_code
def yX7_takeFirst : MethodName := ⟨RX7, "takeFirst", "()V"⟩
def RX8 : String := "SearchKeeper$Roots"
def TX8 : u_T := fun k => match k with
  | 0 => ("SearchKeeper$Roots", "tree", "LSearchKeeper$Tree;", true)
  | 1 => ("SearchKeeper$Roots", "rows", "[LSearchKeeper$Root;", true)
  | _ => ("SearchKeeper$Roots", "many", "I", false)
def tyX8 : Nat → FieldType := fun k => match k with
  | 0 => .object "SearchKeeper$Tree"
  | 1 => .array (.object "SearchKeeper$Root")
  | _ => .int
abbrev wsX80 : List Cond := u_ws RX8 TX8 3
theorem nmX8 : ∀ a, a < 3 → ∀ b, b < 3 → a ≠ b → (TX8 a).2.1 ≠ (TX8 b).2.1 := by decide +kernel
theorem tyX8_ok : ∀ k, k < 3 → parseFieldDescriptor (TX8 k).2.2.1 = some (tyX8 k) := by decide +kernel
abbrev cX8_init : ByteArray := prog_10_method_1_code
def yX8_init : MethodName := ⟨RX8, "<init>", "(LSearchKeeper$Tree;)V"⟩
abbrev cX8_count : ByteArray := prog_10_method_2_code
def yX8_count : MethodName := ⟨RX8, "count", "()I"⟩
abbrev cX8_isFull : ByteArray := prog_10_method_3_code
def yX8_isFull : MethodName := ⟨RX8, "isFull", "()Z"⟩
abbrev cX8_find : ByteArray := prog_10_method_4_code
def yX8_find : MethodName := ⟨RX8, "find", "(I)LSearchKeeper$Root;"⟩
abbrev cX8_holding : ByteArray := prog_10_method_5_code
def yX8_holding : MethodName := ⟨RX8, "holding", "(I)LSearchKeeper$Root;"⟩
abbrev cX8_above : ByteArray := prog_10_method_6_code
def yX8_above : MethodName := ⟨RX8, "above", "(I)LSearchKeeper$Root;"⟩
abbrev cX8_hasAtOrBelow : ByteArray := prog_10_method_7_code
def yX8_hasAtOrBelow : MethodName := ⟨RX8, "hasAtOrBelow", "(I)Z"⟩
abbrev cX8_firstNoisy : ByteArray := prog_10_method_8_code
def yX8_firstNoisy : MethodName := ⟨RX8, "firstNoisy", "()LSearchKeeper$Root;"⟩
abbrev cX8_firstCrawled : ByteArray := prog_10_method_9_code
def yX8_firstCrawled : MethodName := ⟨RX8, "firstCrawled", "()LSearchKeeper$Root;"⟩
abbrev cX8_countCrawls : ByteArray := prog_10_method_10_code
def yX8_countCrawls : MethodName := ⟨RX8, "countCrawls", "()I"⟩
abbrev cX8_tellAbove : ByteArray := prog_10_method_11_code
def yX8_tellAbove : MethodName := ⟨RX8, "tellAbove", "(II)V"⟩
abbrev cX8_add : ByteArray := prog_10_method_12_code
def yX8_add : MethodName := ⟨RX8, "add", "(I)V"⟩
abbrev cX8_end : ByteArray := prog_10_method_13_code
def yX8_end : MethodName := ⟨RX8, "end", "(I)V"⟩
abbrev cX8_endGone : ByteArray := prog_10_method_14_code
def yX8_endGone : MethodName := ⟨RX8, "endGone", "()Z"⟩
def RX9 : String := "SearchKeeper$Tree"
def TX9 : u_T := fun k => match k with
  | 0 => ("SearchKeeper$Tree", "parents", "[I", true)
  | 1 => ("SearchKeeper$Tree", "names", "[C", true)
  | 2 => ("SearchKeeper$Tree", "areFolders", "[Z", true)
  | 3 => ("SearchKeeper$Tree", "areThere", "[Z", true)
  | 4 => ("SearchKeeper$Tree", "areLocked", "[Z", true)
  | 5 => ("SearchKeeper$Tree", "sets", "[I", true)
  | 6 => ("SearchKeeper$Tree", "editions", "[I", true)
  | 7 => ("SearchKeeper$Tree", "lengths", "[I", true)
  | 8 => ("SearchKeeper$Tree", "texts", "[[I", true)
  | _ => ("SearchKeeper$Tree", "made", "I", false)
def tyX9 : Nat → FieldType := fun k => match k with
  | 0 => .array .int
  | 1 => .array .char
  | 2 => .array .boolean
  | 3 => .array .boolean
  | 4 => .array .boolean
  | 5 => .array .int
  | 6 => .array .int
  | 7 => .array .int
  | 8 => .array (.array .int)
  | _ => .int
abbrev wsX90 : List Cond := u_ws RX9 TX9 10
theorem nmX9 : ∀ a, a < 10 → ∀ b, b < 10 → a ≠ b → (TX9 a).2.1 ≠ (TX9 b).2.1 := by decide +kernel
theorem tyX9_ok : ∀ k, k < 10 → parseFieldDescriptor (TX9 k).2.2.1 = some (tyX9 k) := by decide +kernel
abbrev cX9_init : ByteArray := prog_11_method_1_code
def yX9_init : MethodName := ⟨RX9, "<init>", "()V"⟩
abbrev cX9_wasMade : ByteArray := prog_11_method_2_code
def yX9_wasMade : MethodName := ⟨RX9, "wasMade", "(I)Z"⟩
abbrev cX9_isThere : ByteArray := prog_11_method_3_code
def yX9_isThere : MethodName := ⟨RX9, "isThere", "(I)Z"⟩
abbrev cX9_isFolder : ByteArray := prog_11_method_4_code
def yX9_isFolder : MethodName := ⟨RX9, "isFolder", "(I)Z"⟩
abbrev cX9_isFile : ByteArray := prog_11_method_5_code
def yX9_isFile : MethodName := ⟨RX9, "isFile", "(I)Z"⟩
abbrev cX9_isLocked : ByteArray := prog_11_method_6_code
def yX9_isLocked : MethodName := ⟨RX9, "isLocked", "(I)Z"⟩
abbrev cX9_isFull : ByteArray := prog_11_method_7_code
def yX9_isFull : MethodName := ⟨RX9, "isFull", "()Z"⟩
abbrev cX9_parentOf : ByteArray := prog_11_method_8_code
def yX9_parentOf : MethodName := ⟨RX9, "parentOf", "(I)I"⟩
abbrev cX9_nameOf : ByteArray := prog_11_method_9_code
def yX9_nameOf : MethodName := ⟨RX9, "nameOf", "(I)C"⟩
abbrev cX9_peopleOf : ByteArray := prog_11_method_10_code
def yX9_peopleOf : MethodName := ⟨RX9, "peopleOf", "(I)I"⟩
abbrev cX9_editionOf : ByteArray := prog_11_method_11_code
def yX9_editionOf : MethodName := ⟨RX9, "editionOf", "(I)I"⟩
abbrev cX9_lengthOf : ByteArray := prog_11_method_12_code
def yX9_lengthOf : MethodName := ⟨RX9, "lengthOf", "(I)I"⟩
abbrev cX9_textOf : ByteArray := prog_11_method_13_code
def yX9_textOf : MethodName := ⟨RX9, "textOf", "(I)[I"⟩
abbrev cX9_findIn : ByteArray := prog_11_method_14_code
def yX9_findIn : MethodName := ⟨RX9, "findIn", "(IC)I"⟩
abbrev cX9_isBelow : ByteArray := prog_11_method_15_code
def yX9_isBelow : MethodName := ⟨RX9, "isBelow", "(II)Z"⟩
abbrev cX9_isOpenTo : ByteArray := prog_11_method_16_code
def yX9_isOpenTo : MethodName := ⟨RX9, "isOpenTo", "(II)Z"⟩
abbrev cX9_countThere : ByteArray := prog_11_method_17_code
def yX9_countThere : MethodName := ⟨RX9, "countThere", "()I"⟩
abbrev cX9_add : ByteArray := prog_11_method_18_code
def yX9_add : MethodName := ⟨RX9, "add", "(ICZ)I"⟩
abbrev cX9_put : ByteArray := prog_11_method_19_code
def yX9_put : MethodName := ⟨RX9, "put", "(IIC)V"⟩
abbrev cX9_append : ByteArray := prog_11_method_20_code
def yX9_append : MethodName := ⟨RX9, "append", "(II)V"⟩
abbrev cX9_clearText : ByteArray := prog_11_method_21_code
def yX9_clearText : MethodName := ⟨RX9, "clearText", "(I)V"⟩
abbrev cX9_setLocked : ByteArray := prog_11_method_22_code
def yX9_setLocked : MethodName := ⟨RX9, "setLocked", "(IZ)V"⟩
abbrev cX9_setPeople : ByteArray := prog_11_method_23_code
def yX9_setPeople : MethodName := ⟨RX9, "setPeople", "(II)V"⟩
abbrev cX9_takeAway : ByteArray := prog_11_method_24_code
def yX9_takeAway : MethodName := ⟨RX9, "takeAway", "(I)I"⟩
def RX10 : String := "SearchKeeper"
def TX10 : u_T := fun k => match k with
  | 0 => ("SearchKeeper", "tree", "LSearchKeeper$Tree;", true)
  | 1 => ("SearchKeeper", "roots", "LSearchKeeper$Roots;", true)
  | 2 => ("SearchKeeper", "reader", "LSearchKeeper$Reader;", true)
  | 3 => ("SearchKeeper", "known", "LSearchKeeper$Entries;", true)
  | 4 => ("SearchKeeper", "keeper", "LSearchKeeper$Keeper;", true)
  | 5 => ("SearchKeeper", "questions", "LSearchKeeper$Questions;", true)
  | 6 => ("SearchKeeper", "minute", "I", false)
  | 7 => ("SearchKeeper", "isOnBattery", "Z", false)
  | _ => ("SearchKeeper", "batterySteps", "I", false)
def tyX10 : Nat → FieldType := fun k => match k with
  | 0 => .object "SearchKeeper$Tree"
  | 1 => .object "SearchKeeper$Roots"
  | 2 => .object "SearchKeeper$Reader"
  | 3 => .object "SearchKeeper$Entries"
  | 4 => .object "SearchKeeper$Keeper"
  | 5 => .object "SearchKeeper$Questions"
  | 6 => .int
  | 7 => .boolean
  | _ => .int
abbrev wsX100 : List Cond := u_ws RX10 TX10 9
theorem nmX10 : ∀ a, a < 9 → ∀ b, b < 9 → a ≠ b → (TX10 a).2.1 ≠ (TX10 b).2.1 := by decide +kernel
theorem tyX10_ok : ∀ k, k < 9 → parseFieldDescriptor (TX10 k).2.2.1 = some (tyX10 k) := by decide +kernel
abbrev cX10_init : ByteArray := prog_1_method_1_code
def yX10_init : MethodName := ⟨RX10, "<init>", "()V"⟩
abbrev cX10_make : ByteArray := prog_1_method_2_code
def yX10_make : MethodName := ⟨RX10, "make", "(ICZ)I"⟩
abbrev cX10_write : ByteArray := prog_1_method_3_code
def yX10_write : MethodName := ⟨RX10, "write", "(II)I"⟩
abbrev cX10_empty : ByteArray := prog_1_method_4_code
def yX10_empty : MethodName := ⟨RX10, "empty", "(I)I"⟩
abbrev cX10_move : ByteArray := prog_1_method_5_code
def yX10_move : MethodName := ⟨RX10, "move", "(IIC)I"⟩
abbrev cX10_remove : ByteArray := prog_1_method_6_code
def yX10_remove : MethodName := ⟨RX10, "remove", "(I)I"⟩
abbrev cX10_lock : ByteArray := prog_1_method_7_code
def yX10_lock : MethodName := ⟨RX10, "lock", "(IZ)Z"⟩
abbrev cX10_people : ByteArray := prog_1_method_8_code
def yX10_people : MethodName := ⟨RX10, "people", "(II)I"⟩
abbrev cX10_mayRead : ByteArray := prog_1_method_9_code
def yX10_mayRead : MethodName := ⟨RX10, "mayRead", "(II)Z"⟩
abbrev cX10_nodes : ByteArray := prog_1_method_10_code
def yX10_nodes : MethodName := ⟨RX10, "nodes", "()I"⟩
abbrev cX10_watch : ByteArray := prog_1_method_11_code
def yX10_watch : MethodName := ⟨RX10, "watch", "(I)I"⟩
abbrev cX10_notices : ByteArray := prog_1_method_12_code
def yX10_notices : MethodName := ⟨RX10, "notices", "(I)I"⟩
abbrev cX10_twice : ByteArray := prog_1_method_13_code
def yX10_twice : MethodName := ⟨RX10, "twice", "(I)I"⟩
abbrev cX10_lose : ByteArray := prog_1_method_14_code
def yX10_lose : MethodName := ⟨RX10, "lose", "(II)I"⟩
abbrev cX10_pass : ByteArray := prog_1_method_15_code
def yX10_pass : MethodName := ⟨RX10, "pass", "(I)I"⟩
abbrev cX10_battery : ByteArray := prog_1_method_16_code
def yX10_battery : MethodName := ⟨RX10, "battery", "(Z)Z"⟩
abbrev cX10_limits : ByteArray := prog_1_method_17_code
def yX10_limits : MethodName := ⟨RX10, "limits", "(II)I"⟩
abbrev cX10_work : ByteArray := prog_1_method_18_code
def yX10_work : MethodName := ⟨RX10, "work", "(I)I"⟩
abbrev cX10_crawl : ByteArray := prog_1_method_19_code
def yX10_crawl : MethodName := ⟨RX10, "crawl", "(I)I"⟩
abbrev cX10_acts : ByteArray := prog_1_method_20_code
def yX10_acts : MethodName := ⟨RX10, "acts", "()I"⟩
abbrev cX10_isQuiet : ByteArray := prog_1_method_21_code
def yX10_isQuiet : MethodName := ⟨RX10, "isQuiet", "()Z"⟩
abbrev cX10_entries : ByteArray := prog_1_method_22_code
def yX10_entries : MethodName := ⟨RX10, "entries", "()I"⟩
abbrev cX10_edition : ByteArray := prog_1_method_23_code
def yX10_edition : MethodName := ⟨RX10, "edition", "(I)I"⟩
abbrev cX10_stale : ByteArray := prog_1_method_24_code
def yX10_stale : MethodName := ⟨RX10, "stale", "()I"⟩
abbrev cX10_segments : ByteArray := prog_1_method_25_code
def yX10_segments : MethodName := ⟨RX10, "segments", "()I"⟩
abbrev cX10_dead : ByteArray := prog_1_method_26_code
def yX10_dead : MethodName := ⟨RX10, "dead", "()I"⟩
abbrev cX10_answers : ByteArray := prog_1_method_27_code
def yX10_answers : MethodName := ⟨RX10, "answers", "(IIII)I"⟩
abbrev cX10_answersAnew : ByteArray := prog_1_method_28_code
def yX10_answersAnew : MethodName := ⟨RX10, "answersAnew", "(IIII)I"⟩
abbrev cX10_answer : ByteArray := prog_1_method_29_code
def yX10_answer : MethodName := ⟨RX10, "answer", "(IIII)I"⟩
abbrev cX10_closest : ByteArray := prog_1_method_30_code
def yX10_closest : MethodName := ⟨RX10, "closest", "(IIII)I"⟩
abbrev cX10_isMadeOrNone : ByteArray := prog_1_method_31_code
def yX10_isMadeOrNone : MethodName := ⟨RX10, "isMadeOrNone", "(I)Z"⟩
abbrev cX10_isName : ByteArray := prog_1_method_32_code
def yX10_isName : MethodName := ⟨RX10, "isName", "(C)Z"⟩
abbrev cX10_isPerson : ByteArray := prog_1_method_33_code
def yX10_isPerson : MethodName := ⟨RX10, "isPerson", "(I)Z"⟩
abbrev cX10_isWord : ByteArray := prog_1_method_34_code
def yX10_isWord : MethodName := ⟨RX10, "isWord", "(I)Z"⟩
abbrev cX10_isWordOrNone : ByteArray := prog_1_method_35_code
def yX10_isWordOrNone : MethodName := ⟨RX10, "isWordOrNone", "(I)Z"⟩
def RX11 : String := "SearchKeeperModel"
def TX11 : u_T := fun k => match k with
  | 0 => ("SearchKeeperModel", "thrown", "I", false)
  | 1 => ("SearchKeeperModel", "minute", "I", false)
  | 2 => ("SearchKeeperModel", "made", "I", false)
  | 3 => ("SearchKeeperModel", "isThere", "[Z", true)
  | 4 => ("SearchKeeperModel", "isFolder", "[Z", true)
  | 5 => ("SearchKeeperModel", "parents", "[I", true)
  | 6 => ("SearchKeeperModel", "names", "[C", true)
  | 7 => ("SearchKeeperModel", "editions", "[I", true)
  | 8 => ("SearchKeeperModel", "markMany", "[I", true)
  | 9 => ("SearchKeeperModel", "marks", "[I", true)
  | 10 => ("SearchKeeperModel", "isLocked", "[Z", true)
  | 11 => ("SearchKeeperModel", "allowed", "[I", true)
  | 12 => ("SearchKeeperModel", "rootMany", "I", false)
  | 13 => ("SearchKeeperModel", "roots", "[I", true)
  | 14 => ("SearchKeeperModel", "noticeMany", "[I", true)
  | 15 => ("SearchKeeperModel", "noticeKinds", "[I", true)
  | 16 => ("SearchKeeperModel", "noticeNodes", "[I", true)
  | 17 => ("SearchKeeperModel", "isFlooded", "[Z", true)
  | 18 => ("SearchKeeperModel", "crawls", "[Z", true)
  | 19 => ("SearchKeeperModel", "waitMany", "[I", true)
  | 20 => ("SearchKeeperModel", "waits", "[I", true)
  | 21 => ("SearchKeeperModel", "met", "[Z", true)
  | 22 => ("SearchKeeperModel", "hasEntry", "[Z", true)
  | 23 => ("SearchKeeperModel", "knownParents", "[I", true)
  | 24 => ("SearchKeeperModel", "knownNames", "[C", true)
  | 25 => ("SearchKeeperModel", "knownEditions", "[I", true)
  | 26 => ("SearchKeeperModel", "wordMany", "[I", true)
  | 27 => ("SearchKeeperModel", "words", "[I", true)
  | 28 => ("SearchKeeperModel", "depthLimit", "I", false)
  | 29 => ("SearchKeeperModel", "wordLimit", "I", false)
  | 30 => ("SearchKeeperModel", "actMany", "I", false)
  | 31 => ("SearchKeeperModel", "actNodes", "[I", true)
  | 32 => ("SearchKeeperModel", "actKinds", "[I", true)
  | 33 => ("SearchKeeperModel", "isPutOff", "[Z", true)
  | 34 => ("SearchKeeperModel", "isOnBattery", "Z", false)
  | 35 => ("SearchKeeperModel", "hour", "I", false)
  | 36 => ("SearchKeeperModel", "hourly", "I", false)
  | 37 => ("SearchKeeperModel", "placeMany", "I", false)
  | 38 => ("SearchKeeperModel", "placeSegments", "[I", true)
  | 39 => ("SearchKeeperModel", "placeNodes", "[I", true)
  | 40 => ("SearchKeeperModel", "placeDead", "[Z", true)
  | 41 => ("SearchKeeperModel", "segmentMany", "I", false)
  | 42 => ("SearchKeeperModel", "isRead", "[Z", true)
  | 43 => ("SearchKeeperModel", "leaving", "[Z", true)
  | 44 => ("SearchKeeperModel", "takenMany", "I", false)
  | _ => ("SearchKeeperModel", "taken", "[I", true)
def tyX11 : Nat → FieldType := fun k => match k with
  | 0 => .int
  | 1 => .int
  | 2 => .int
  | 3 => .array .boolean
  | 4 => .array .boolean
  | 5 => .array .int
  | 6 => .array .char
  | 7 => .array .int
  | 8 => .array .int
  | 9 => .array .int
  | 10 => .array .boolean
  | 11 => .array .int
  | 12 => .int
  | 13 => .array .int
  | 14 => .array .int
  | 15 => .array .int
  | 16 => .array .int
  | 17 => .array .boolean
  | 18 => .array .boolean
  | 19 => .array .int
  | 20 => .array .int
  | 21 => .array .boolean
  | 22 => .array .boolean
  | 23 => .array .int
  | 24 => .array .char
  | 25 => .array .int
  | 26 => .array .int
  | 27 => .array .int
  | 28 => .int
  | 29 => .int
  | 30 => .int
  | 31 => .array .int
  | 32 => .array .int
  | 33 => .array .boolean
  | 34 => .boolean
  | 35 => .int
  | 36 => .int
  | 37 => .int
  | 38 => .array .int
  | 39 => .array .int
  | 40 => .array .boolean
  | 41 => .int
  | 42 => .array .boolean
  | 43 => .array .boolean
  | 44 => .int
  | _ => .array .int
abbrev wsX110 : List Cond := u_ws RX11 TX11 46
theorem nmX11 : ∀ a, a < 46 → ∀ b, b < 46 → a ≠ b → (TX11 a).2.1 ≠ (TX11 b).2.1 := by decide +kernel
theorem tyX11_ok : ∀ k, k < 46 → parseFieldDescriptor (TX11 k).2.2.1 = some (tyX11 k) := by decide +kernel
abbrev cX11_init : ByteArray := prog_13_method_1_code
def yX11_init : MethodName := ⟨RX11, "<init>", "()V"⟩
abbrev cX11_thrown : ByteArray := prog_13_method_2_code
def yX11_thrown : MethodName := ⟨RX11, "thrown", "()I"⟩
abbrev cX11_fails : ByteArray := prog_13_method_3_code
def yX11_fails : MethodName := ⟨RX11, "fails", "(I)I"⟩
abbrev cX11_in : ByteArray := prog_13_method_4_code
def yX11_in : MethodName := ⟨RX11, "in", "(III)Z"⟩
abbrev cX11_isNode : ByteArray := prog_13_method_5_code
def yX11_isNode : MethodName := ⟨RX11, "isNode", "(I)Z"⟩
abbrev cX11_isFolderAt : ByteArray := prog_13_method_6_code
def yX11_isFolderAt : MethodName := ⟨RX11, "isFolderAt", "(I)Z"⟩
abbrev cX11_isFileAt : ByteArray := prog_13_method_7_code
def yX11_isFileAt : MethodName := ⟨RX11, "isFileAt", "(I)Z"⟩
abbrev cX11_isBelow : ByteArray := prog_13_method_8_code
def yX11_isBelow : MethodName := ⟨RX11, "isBelow", "(II)Z"⟩
abbrev cX11_rootAt : ByteArray := prog_13_method_9_code
def yX11_rootAt : MethodName := ⟨RX11, "rootAt", "(I)I"⟩
abbrev cX11_over : ByteArray := prog_13_method_10_code
def yX11_over : MethodName := ⟨RX11, "over", "(I)I"⟩
abbrev cX11_isTaken : ByteArray := prog_13_method_11_code
def yX11_isTaken : MethodName := ⟨RX11, "isTaken", "(ICI)Z"⟩
abbrev cX11_comes : ByteArray := prog_13_method_12_code
def yX11_comes : MethodName := ⟨RX11, "comes", "(III)V"⟩
abbrev cX11_make : ByteArray := prog_13_method_13_code
def yX11_make : MethodName := ⟨RX11, "make", "(ICZ)I"⟩
abbrev cX11_write : ByteArray := prog_13_method_14_code
def yX11_write : MethodName := ⟨RX11, "write", "(II)I"⟩
abbrev cX11_empty : ByteArray := prog_13_method_15_code
def yX11_empty : MethodName := ⟨RX11, "empty", "(I)I"⟩
abbrev cX11_holdsRoot : ByteArray := prog_13_method_16_code
def yX11_holdsRoot : MethodName := ⟨RX11, "holdsRoot", "(I)Z"⟩
abbrev cX11_move : ByteArray := prog_13_method_17_code
def yX11_move : MethodName := ⟨RX11, "move", "(IIC)I"⟩
abbrev cX11_remove : ByteArray := prog_13_method_18_code
def yX11_remove : MethodName := ⟨RX11, "remove", "(I)I"⟩
abbrev cX11_lock : ByteArray := prog_13_method_19_code
def yX11_lock : MethodName := ⟨RX11, "lock", "(IZ)Z"⟩
abbrev cX11_people : ByteArray := prog_13_method_20_code
def yX11_people : MethodName := ⟨RX11, "people", "(II)I"⟩
abbrev cX11_mayReadAt : ByteArray := prog_13_method_21_code
def yX11_mayReadAt : MethodName := ⟨RX11, "mayReadAt", "(II)Z"⟩
abbrev cX11_mayRead : ByteArray := prog_13_method_22_code
def yX11_mayRead : MethodName := ⟨RX11, "mayRead", "(II)Z"⟩
abbrev cX11_nodes : ByteArray := prog_13_method_23_code
def yX11_nodes : MethodName := ⟨RX11, "nodes", "()I"⟩
abbrev cX11_drops : ByteArray := prog_13_method_24_code
def yX11_drops : MethodName := ⟨RX11, "drops", "(I)V"⟩
abbrev cX11_looksAtLost : ByteArray := prog_13_method_25_code
def yX11_looksAtLost : MethodName := ⟨RX11, "looksAtLost", "()V"⟩
abbrev cX11_beginsCrawl : ByteArray := prog_13_method_26_code
def yX11_beginsCrawl : MethodName := ⟨RX11, "beginsCrawl", "(I)V"⟩
abbrev cX11_watch : ByteArray := prog_13_method_27_code
def yX11_watch : MethodName := ⟨RX11, "watch", "(I)I"⟩
abbrev cX11_notices : ByteArray := prog_13_method_28_code
def yX11_notices : MethodName := ⟨RX11, "notices", "(I)I"⟩
abbrev cX11_twice : ByteArray := prog_13_method_29_code
def yX11_twice : MethodName := ⟨RX11, "twice", "(I)I"⟩
abbrev cX11_lose : ByteArray := prog_13_method_30_code
def yX11_lose : MethodName := ⟨RX11, "lose", "(II)I"⟩
abbrev cX11_liesBelow : ByteArray := prog_13_method_31_code
def yX11_liesBelow : MethodName := ⟨RX11, "liesBelow", "(II)Z"⟩
abbrev cX11_adds : ByteArray := prog_13_method_32_code
def yX11_adds : MethodName := ⟨RX11, "adds", "(II)V"⟩
abbrev cX11_firstAct : ByteArray := prog_13_method_33_code
def yX11_firstAct : MethodName := ⟨RX11, "firstAct", "()I"⟩
abbrev cX11_takesAct : ByteArray := prog_13_method_34_code
def yX11_takesAct : MethodName := ⟨RX11, "takesAct", "(I)V"⟩
abbrev cX11_forgets : ByteArray := prog_13_method_35_code
def yX11_forgets : MethodName := ⟨RX11, "forgets", "(I)V"⟩
abbrev cX11_kills : ByteArray := prog_13_method_36_code
def yX11_kills : MethodName := ⟨RX11, "kills", "(I)V"⟩
abbrev cX11_takesWords : ByteArray := prog_13_method_37_code
def yX11_takesWords : MethodName := ⟨RX11, "takesWords", "(I)V"⟩
abbrev cX11_places : ByteArray := prog_13_method_38_code
def yX11_places : MethodName := ⟨RX11, "places", "(I)V"⟩
abbrev cX11_isKnown : ByteArray := prog_13_method_39_code
def yX11_isKnown : MethodName := ⟨RX11, "isKnown", "(I)Z"⟩
abbrev cX11_cost : ByteArray := prog_13_method_40_code
def yX11_cost : MethodName := ⟨RX11, "cost", "(I)I"⟩
abbrev cX11_acts : ByteArray := prog_13_method_41_code
def yX11_acts : MethodName := ⟨RX11, "acts", "(I)V"⟩
abbrev cX11_reads : ByteArray := prog_13_method_42_code
def yX11_reads : MethodName := ⟨RX11, "reads", "(I)V"⟩
abbrev cX11_isWaiting : ByteArray := prog_13_method_43_code
def yX11_isWaiting : MethodName := ⟨RX11, "isWaiting", "(II)Z"⟩
abbrev cX11_goesOn : ByteArray := prog_13_method_44_code
def yX11_goesOn : MethodName := ⟨RX11, "goesOn", "(I)V"⟩
abbrev cX11_firstNoticed : ByteArray := prog_13_method_45_code
def yX11_firstNoticed : MethodName := ⟨RX11, "firstNoticed", "()I"⟩
abbrev cX11_firstCrawl : ByteArray := prog_13_method_46_code
def yX11_firstCrawl : MethodName := ⟨RX11, "firstCrawl", "()I"⟩
abbrev cX11_notes : ByteArray := prog_13_method_47_code
def yX11_notes : MethodName := ⟨RX11, "notes", "(I)V"⟩
abbrev cX11_does : ByteArray := prog_13_method_48_code
def yX11_does : MethodName := ⟨RX11, "does", "(I)I"⟩
abbrev cX11_pass : ByteArray := prog_13_method_49_code
def yX11_pass : MethodName := ⟨RX11, "pass", "(I)I"⟩
abbrev cX11_battery : ByteArray := prog_13_method_50_code
def yX11_battery : MethodName := ⟨RX11, "battery", "(Z)Z"⟩
abbrev cX11_limits : ByteArray := prog_13_method_51_code
def yX11_limits : MethodName := ⟨RX11, "limits", "(II)I"⟩
abbrev cX11_work : ByteArray := prog_13_method_52_code
def yX11_work : MethodName := ⟨RX11, "work", "(I)I"⟩
abbrev cX11_crawl : ByteArray := prog_13_method_53_code
def yX11_crawl : MethodName := ⟨RX11, "crawl", "(I)I"⟩
abbrev cX11_acts_ : ByteArray := prog_13_method_54_code
def yX11_acts_ : MethodName := ⟨RX11, "acts", "()I"⟩
abbrev cX11_isQuiet : ByteArray := prog_13_method_55_code
def yX11_isQuiet : MethodName := ⟨RX11, "isQuiet", "()Z"⟩
abbrev cX11_entries : ByteArray := prog_13_method_56_code
def yX11_entries : MethodName := ⟨RX11, "entries", "()I"⟩
abbrev cX11_edition : ByteArray := prog_13_method_57_code
def yX11_edition : MethodName := ⟨RX11, "edition", "(I)I"⟩
abbrev cX11_stale : ByteArray := prog_13_method_58_code
def yX11_stale : MethodName := ⟨RX11, "stale", "()I"⟩
abbrev cX11_count : ByteArray := prog_13_method_59_code
def yX11_count : MethodName := ⟨RX11, "count", "(IZ)I"⟩
abbrev cX11_takesPlace : ByteArray := prog_13_method_60_code
def yX11_takesPlace : MethodName := ⟨RX11, "takesPlace", "(I)V"⟩
abbrev cX11_cleans : ByteArray := prog_13_method_61_code
def yX11_cleans : MethodName := ⟨RX11, "cleans", "(I)V"⟩
abbrev cX11_joins : ByteArray := prog_13_method_62_code
def yX11_joins : MethodName := ⟨RX11, "joins", "(I)V"⟩
abbrev cX11_indexes : ByteArray := prog_13_method_63_code
def yX11_indexes : MethodName := ⟨RX11, "indexes", "()V"⟩
abbrev cX11_segments : ByteArray := prog_13_method_64_code
def yX11_segments : MethodName := ⟨RX11, "segments", "()I"⟩
abbrev cX11_dead : ByteArray := prog_13_method_65_code
def yX11_dead : MethodName := ⟨RX11, "dead", "()I"⟩
abbrev cX11_areWords : ByteArray := prog_13_method_66_code
def yX11_areWords : MethodName := ⟨RX11, "areWords", "(II)Z"⟩
abbrev cX11_often : ByteArray := prog_13_method_67_code
def yX11_often : MethodName := ⟨RX11, "often", "(II)I"⟩
abbrev cX11_has : ByteArray := prog_13_method_68_code
def yX11_has : MethodName := ⟨RX11, "has", "(III)Z"⟩
abbrev cX11_score : ByteArray := prog_13_method_69_code
def yX11_score : MethodName := ⟨RX11, "score", "(III)I"⟩
abbrev cX11_isAnswer : ByteArray := prog_13_method_70_code
def yX11_isAnswer : MethodName := ⟨RX11, "isAnswer", "(IIIII)Z"⟩
abbrev cX11_canAsk : ByteArray := prog_13_method_71_code
def yX11_canAsk : MethodName := ⟨RX11, "canAsk", "(IIII)Z"⟩
abbrev cX11_answers : ByteArray := prog_13_method_72_code
def yX11_answers : MethodName := ⟨RX11, "answers", "(IIII)I"⟩
abbrev cX11_answersAnew : ByteArray := prog_13_method_73_code
def yX11_answersAnew : MethodName := ⟨RX11, "answersAnew", "(IIII)I"⟩
abbrev cX11_answer : ByteArray := prog_13_method_74_code
def yX11_answer : MethodName := ⟨RX11, "answer", "(IIII)I"⟩
abbrev cX11_closest : ByteArray := prog_13_method_75_code
def yX11_closest : MethodName := ⟨RX11, "closest", "(IIII)I"⟩
abbrev cX11_isCloser : ByteArray := prog_13_method_76_code
def yX11_isCloser : MethodName := ⟨RX11, "isCloser", "(IIII)Z"⟩
def RJ9 : String := "java/lang/Math"
def TJ9 : u_T := fun k => match k with
  | _ => ("", "", "", false)
def tyJ9 : Nat → FieldType := fun k => match k with
  | _ => .int
abbrev wsJ90 : List Cond := u_ws RJ9 TJ9 0
theorem nmJ9 : ∀ a, a < 0 → ∀ b, b < 0 → a ≠ b → (TJ9 a).2.1 ≠ (TJ9 b).2.1 := by decide +kernel
theorem tyJ9_ok : ∀ k, k < 0 → parseFieldDescriptor (TJ9 k).2.2.1 = some (tyJ9 k) := by decide +kernel
abbrev cJ9_abs_0f7a4 : ByteArray := prog_18_method_59_code
def yJ9_abs_0f7a4 : MethodName := ⟨RJ9, "abs", "(I)I"⟩
abbrev cJ9_max_7cf53 : ByteArray := prog_18_method_65_code
def yJ9_max_7cf53 : MethodName := ⟨RJ9, "max", "(II)I"⟩
abbrev cJ9_min_7cf53 : ByteArray := prog_18_method_69_code
def yJ9_min_7cf53 : MethodName := ⟨RJ9, "min", "(II)I"⟩
def RJ0 : String := "java/lang/String"
def TJ0 : u_T := fun k => match k with
  | _ => ("", "", "", false)
def tyJ0 : Nat → FieldType := fun k => match k with
  | _ => .int
abbrev wsJ00 : List Cond := u_ws RJ0 TJ0 0
theorem nmJ0 : ∀ a, a < 0 → ∀ b, b < 0 → a ≠ b → (TJ0 a).2.1 ≠ (TJ0 b).2.1 := by decide +kernel
theorem tyJ0_ok : ∀ k, k < 0 → parseFieldDescriptor (TJ0 k).2.2.1 = some (tyJ0 k) := by decide +kernel
def RL : String := "SearchKeeperLaw"
abbrev cL_make : ByteArray := method_3_code
def yL_make : MethodName := ⟨RL, "make", "(LSearchKeeper;ICZ[J)I"⟩
abbrev cL_write : ByteArray := method_4_code
def yL_write : MethodName := ⟨RL, "write", "(LSearchKeeper;II[J)I"⟩
abbrev cL_empty : ByteArray := method_5_code
def yL_empty : MethodName := ⟨RL, "empty", "(LSearchKeeper;I[J)I"⟩
abbrev cL_move : ByteArray := method_6_code
def yL_move : MethodName := ⟨RL, "move", "(LSearchKeeper;IIC[J)I"⟩
abbrev cL_remove : ByteArray := method_7_code
def yL_remove : MethodName := ⟨RL, "remove", "(LSearchKeeper;I[J)I"⟩
abbrev cL_lock : ByteArray := method_8_code
def yL_lock : MethodName := ⟨RL, "lock", "(LSearchKeeper;IZ[J)I"⟩
abbrev cL_people : ByteArray := method_9_code
def yL_people : MethodName := ⟨RL, "people", "(LSearchKeeper;II[J)I"⟩
abbrev cL_mayRead : ByteArray := method_10_code
def yL_mayRead : MethodName := ⟨RL, "mayRead", "(LSearchKeeper;II[J)I"⟩
abbrev cL_watch : ByteArray := method_11_code
def yL_watch : MethodName := ⟨RL, "watch", "(LSearchKeeper;I[J)I"⟩
abbrev cL_notices : ByteArray := method_12_code
def yL_notices : MethodName := ⟨RL, "notices", "(LSearchKeeper;I[J)I"⟩
abbrev cL_twice : ByteArray := method_13_code
def yL_twice : MethodName := ⟨RL, "twice", "(LSearchKeeper;I[J)I"⟩
abbrev cL_lose : ByteArray := method_14_code
def yL_lose : MethodName := ⟨RL, "lose", "(LSearchKeeper;II[J)I"⟩
abbrev cL_pass : ByteArray := method_15_code
def yL_pass : MethodName := ⟨RL, "pass", "(LSearchKeeper;I[J)I"⟩
abbrev cL_limits : ByteArray := method_16_code
def yL_limits : MethodName := ⟨RL, "limits", "(LSearchKeeper;II[J)I"⟩
abbrev cL_work : ByteArray := method_17_code
def yL_work : MethodName := ⟨RL, "work", "(LSearchKeeper;I[J)I"⟩
abbrev cL_crawl : ByteArray := method_18_code
def yL_crawl : MethodName := ⟨RL, "crawl", "(LSearchKeeper;I[J)I"⟩
abbrev cL_edition : ByteArray := method_19_code
def yL_edition : MethodName := ⟨RL, "edition", "(LSearchKeeper;I[J)I"⟩
abbrev cL_answers : ByteArray := method_20_code
def yL_answers : MethodName := ⟨RL, "answers", "(LSearchKeeper;IIII[J)I"⟩
abbrev cL_answersAnew : ByteArray := method_21_code
def yL_answersAnew : MethodName := ⟨RL, "answersAnew", "(LSearchKeeper;IIII[J)I"⟩
abbrev cL_answer : ByteArray := method_22_code
def yL_answer : MethodName := ⟨RL, "answer", "(LSearchKeeper;IIII[J)I"⟩
abbrev cL_closest : ByteArray := method_23_code
def yL_closest : MethodName := ⟨RL, "closest", "(LSearchKeeper;IIII[J)I"⟩
abbrev cL_law : ByteArray := code
def yL_law : MethodName := ⟨RL, "law", "([I)Z"⟩
abbrev vwCl : List vw_C := [(RX0, TX0, 4), (RX1, TX1, 5), (RX2, TX2, 10), (RX3, TX3, 4), (RX4, TX4, 6), (RX5, TX5, 6), (RX6, TX6, 2), (RX7, TX7, 6), (RX8, TX8, 3), (RX9, TX9, 10), (RX10, TX10, 9), (RX11, TX11, 46)]
end
section
/-! ===== links among nest mates: they ride as premises of their own ===== -/
def nestF : List (String × Nat × String × String × String) := [("SearchKeeper", 251, "SearchKeeper$Reader", "wordLimit", "I"), ("SearchKeeper", 254, "SearchKeeper$Reader", "depthLimit", "I"), ("SearchKeeper$Keeper", 102, "SearchKeeper$Root", "nodes", "[I"), ("SearchKeeper$Keeper", 106, "SearchKeeper$Root", "kinds", "[I"), ("SearchKeeper$Keeper", 170, "SearchKeeper$Root", "crawl", "LSearchKeeper$Crawl;"), ("SearchKeeper$Keeper", 178, "SearchKeeper$Root", "folder", "I"), ("SearchKeeper$Keeper", 190, "SearchKeeper$Crawl", "many", "I"), ("SearchKeeper$Keeper", 193, "SearchKeeper$Crawl", "goesOn", "Z"), ("SearchKeeper$Keeper", 93, "SearchKeeper$Root", "isFlooded", "Z"), ("SearchKeeper$Questions", 96, "SearchKeeper$Root", "folder", "I"), ("SearchKeeper$Roots", 26, "SearchKeeper$Root", "folder", "I"), ("SearchKeeper$Roots", 46, "SearchKeeper$Root", "isFlooded", "Z"), ("SearchKeeper$Roots", 54, "SearchKeeper$Root", "crawl", "LSearchKeeper$Crawl;"), ("SearchKeeper$Roots", 58, "SearchKeeper$Crawl", "goesOn", "Z")]
def nestM : List (String × Nat × MethodName) := [("SearchKeeper", 27, ⟨"SearchKeeper$Reader", "<init>", "()V"⟩), ("SearchKeeper$Keeper", 11, ⟨"SearchKeeper$Acts", "<init>", "()V"⟩), ("SearchKeeper$Root", 20, ⟨"SearchKeeper$Crawl", "<init>", "()V"⟩), ("SearchKeeper$Roots", 21, ⟨"SearchKeeper$Root", "<init>", "()V"⟩)]
def jN (U : State) : Prop := (∀ q ∈ nestF, va_Nw (.fieldLinkNest q.1 q.2.1 q.2.2.1 q.2.2.2.1 q.2.2.2.2 "SearchKeeper") U) ∧ ∀ q ∈ nestM, va_Nw (.methodLinkNest q.1 q.2.1 q.2.2 "SearchKeeper") U
theorem jN.warm {s U : State} (hW : s.WarmedH U.vm) (h : jN s) : jN U := ⟨fun q hq => va_Nw.warmF hW (h.1 q hq), fun q hq => va_Nw.warmM hW (h.2 q hq)⟩
theorem jN.same {u U : State} (hv : u.vm = U.vm) (h : jN u) : jN U := ⟨fun q hq => va_Nw.same rfl hv (h.1 q hq), fun q hq => va_Nw.same rfl hv (h.2 q hq)⟩
/-! ===== one list of words for every method: the tables' good words ===== -/
def gTbl : List Cond := lw_tbl.filter goodWord
theorem gTbl_good : GoodIn gTbl gTbl := fun _ hw => ⟨hw, good_of_word (List.mem_filter.mp hw).2⟩
theorem gTbl_in {w : Cond} (h : w ∈ gTbl) : w ∈ lw_tbl := (List.mem_filter.mp h).1
theorem gTbl_at {i : Nat} {w : Cond} (h : lw_tbl[i]? = some w) (hg : goodWord w = true) : w ∈ gTbl := List.mem_filter.mpr ⟨List.mem_of_getElem? h, hg⟩
/-! ===== a world laid out by numbers: a cell a number; what the cells hold is one function of number and place ===== -/
abbrev JX : Type := Nat → Nat → Int32
/-- how many cells; the kind of each: (0, n) ints, (1, n) booleans, (2, n) chars, (3, n) roots by their numbers, (10 + class, _) an object, (100 + b, n) a row of the rows b, b + 1 ..; an object's fields -/
abbrev Lay : Type := Nat × (Nat → Nat × Nat) × ((Nat → Nat) → (Nat → Int32) → Nat → Nat → List Value)
def cZ (L : Lay) (ad : Nat → Nat) (cA : Nat → ClassId) (f : Nat → Int32) (k : Nat) : va_E := match L.2.1 k with
  | (0, n) => .inl (cA 0, (n, .inl f))
  | (1, n) => .inl (cA 1, (n, .inl f))
  | (2, n) => .inl (cA 2, (n, .inl f))
  | (3, n) => .inl (cA 3, (n, .inr (.inr (.inr (.inr (fun j => some (ad (f j).toNatClampNeg)))))))
  | (c, n) => if c < 100 then .inr (c - 10, L.2.2 ad f k (c - 10)) else .inl (cA 4, (n, .inr (.inr (.inr (.inr (fun j => if j < n then some (ad (c - 100 + j)) else none))))))
def wZ (L : Lay) (ad : Nat → Nat) (cA : Nat → ClassId) (X : JX) : va_W := (List.range L.1).map fun k => (ad k, cZ L ad cA (X k) k)
def pX (X : JX) (k : Nat) (f : Nat → Int32) : JX := fun q => if q = k then f else X q
theorem pX_self (X : JX) (k : Nat) (f : Nat → Int32) : pX X k f k = f := if_pos rfl
theorem pX_ne (X : JX) {k q : Nat} (f : Nat → Int32) (h : q ≠ k) : pX X k f q = X q := if_neg h
theorem wZ_len (L : Lay) (ad : Nat → Nat) (cA : Nat → ClassId) (X : JX) : (wZ L ad cA X).length = L.1 := by simp [wZ]
theorem wZ_get {L : Lay} {ad : Nat → Nat} {cA : Nat → ClassId} {X : JX} {rs : va_W} {k : Nat} (h : k < L.1) : (wZ L ad cA X ++ rs)[k]? = some (ad k, cZ L ad cA (X k) k) := by
  rw [List.getElem?_append_left (by rw [wZ_len]; exact h), wZ, List.getElem?_map, List.getElem?_range h]
  rfl
theorem wZ_set {L : Lay} {ad : Nat → Nat} {cA : Nat → ClassId} {X X' : JX} {rs : va_W} {k : Nat} (h : k < L.1) (hX : ∀ j, j ≠ k → X' j = X j) : (wZ L ad cA X ++ rs).set k (ad k, cZ L ad cA (X' k) k) = wZ L ad cA X' ++ rs := by
  have hl : (wZ L ad cA X).length = L.1 := wZ_len L ad cA X
  rw [List.set_append_left _ _ (by rw [hl]; exact h)]
  congr 1
  apply List.ext_getElem?
  intro j
  by_cases hj : j = k
  · subst hj
    rw [List.getElem?_set_self (by rw [hl]; exact h), wZ, List.getElem?_map, List.getElem?_range h]
    rfl
  · rw [List.getElem?_set_ne (fun e => hj e.symm)]
    by_cases hlt : j < L.1
    · rw [wZ, wZ, List.getElem?_map, List.getElem?_map, List.getElem?_range hlt]
      simp only [Option.map_some]
      rw [hX j hj]
    · rw [List.getElem?_eq_none (by rw [wZ_len]; omega), List.getElem?_eq_none (by rw [wZ_len]; omega)]
/-- addresses do not move -/
theorem wZ_adr {L : Lay} {ad : Nat → Nat} {cA : Nat → ClassId} {X X' : JX} {rs : va_W} {k : Nat} {q : Nat × va_E} (h : (wZ L ad cA X' ++ rs)[k]? = some q) : ∃ q0, (wZ L ad cA X ++ rs)[k]? = some q0 ∧ q0.1 = q.1 := by
  by_cases hk : k < L.1
  · rw [wZ_get hk] at h
    cases h
    exact ⟨_, wZ_get hk, rfl⟩
  · rw [List.getElem?_append_right (by rw [wZ_len]; omega), wZ_len] at h
    exact ⟨q, by rw [List.getElem?_append_right (by rw [wZ_len]; omega), wZ_len]; exact h, rfl⟩
theorem wZ_D {L : Lay} {ad : Nat → Nat} {cA : Nat → ClassId} {X X' : JX} {rs : va_W} {A : Nat → Prop} (h : va_D A (wZ L ad cA X ++ rs)) : va_D A (wZ L ad cA X' ++ rs) := by
  refine ⟨fun i j x y hi hj hxy => ?_, fun k q hk => ?_⟩
  · obtain ⟨x0, h1, e1⟩ := wZ_adr (X := X) hi
    obtain ⟨y0, h2, e2⟩ := wZ_adr (X := X) hj
    exact h.1 i j x0 y0 h1 h2 (e1.trans (hxy.trans e2.symm))
  · obtain ⟨q0, h1, e1⟩ := wZ_adr (X := X) hk
    rw [← e1]
    exact h.2 k q0 h1
/-- the classes of arrays -/
def jTy (cA : Nat → ClassId) : List (ClassId × FieldType) := [(cA 0, .int), (cA 1, .boolean), (cA 2, .char), (cA 3, .object "SearchKeeper$Root"), (cA 4, .array .int), (cA 5, .long)]
def jRm (d kc ks : Nat) : Room := { frames := d, cells := kc, slots := ks, locals := 39 * d }
/-- what stays through a method's body -/
abbrev JK : Type := Program × Launch × Env × Room × State × MethodId × Array Value × List Frame × Method × Code × va_G × (Nat → Prop) × (Nat → Nat) × (Nat → ClassId) × va_W × (State → Prop)
def jad (κ : JK) : Nat → Nat := κ.2.2.2.2.2.2.2.2.2.2.2.2.1
def J (L : Lay) (n : Nat) (κ : JK) (X : JX) (pc : Nat) (lv : List (Nat × Value)) (st : List Value) : Prop := match κ with
  | (p, l, e, R, s, m, args, below, meth, c, D, A, ad, cA, rs, Q) => ∀ (H : Heap) (locs : List Loc) (ls : Array Slot), va_P D vwCl (wZ L ad cA X ++ rs) H → va_D A (wZ L ad cA X ++ rs) → va_S A s.heap H locs → lv_has ls n lv → W p l e R s m args below meth c H locs 0 0 Q (F0 m pc ls st)
def jOk (n : Nat) (cc : ByteArray) (own : String) (ret : Option FieldType) (d : Nat) (κ : JK) : Prop := match κ with
  | (p, l, e, R, s, m, args, below, meth, c, D, A, ad, cA, rs, Q) => p.tables.exec = Jvm.exec ∧ c.code = cc ∧ c.maxLocals = n ∧ s.vm.findClass own = some m.cls ∧ (∀ w ∈ gTbl, w.before args s = true) ∧ meth.sig.returnType = ret ∧ meth.locks = false ∧ va_K D vwCl (jTy cA) s ∧ (∀ q, s.heap.size ≤ q → A q) ∧ d ≤ R.frames ∧ 39 * d ≤ R.locals ∧ jN s
/-- the classes that are thrown, by numbers -/
def excN (k : Nat) : String := if k = 1 then "java/lang/IndexOutOfBoundsException" else if k = 2 then "java/lang/IllegalArgumentException" else "java/lang/IllegalStateException"
/-- how a method ends: with the exception of that number, or with that answer; with that world -/
abbrev JE : Type := Option Nat × Option Value × JX
def jQc (L : Lay) (D : va_G) (ad : Nat → Nat) (cA : Nat → ClassId) (rs : va_W) (A : Nat → Prop) (x : JE) : Array Value → State → Outcome → State → Prop := fun _ st oc t => (x.1 = none ∧ oc = .returned x.2.1 ∧ va_P D vwCl (wZ L ad cA x.2.2 ++ rs) t.heap) ∧ va_F A st t
def jXc (L : Lay) (D : va_G) (ad : Nat → Nat) (cA : Nat → ClassId) (rs : va_W) (A : Nat → Prop) (x : JE) : String → State → State → Prop := fun E st t => (∃ k, x.1 = some k ∧ E = excN k) ∧ va_P D vwCl (wZ L ad cA x.2.2 ++ rs) t.heap ∧ va_F A st t
/-- what a method that throws needs of the heap -/
def jH (A : Nat → Prop) (U : State) : Prop := vx_Zq Bundle.tN "UNASSIGNED_STACK" Bundle.steD A U U.heap ∧ vx_Zq Bundle.tN "SUPPRESSED_SENTINEL" Bundle.listD A U U.heap
def jFin (L : Lay) (thr : Bool) (x : JE) (κ : JK) : Prop := match κ with
  | (_, l, _, R, s, _, args, below, _, _, D, A, ad, cA, rs, Q) => if thr = true then Q = vx_MQ below (jQc L D ad cA rs A x) (jXc L D ad cA rs A x) args s 1 6 A ∧ 1 ≤ R.cells ∧ 6 ≤ R.slots ∧ l.stackTraces = false ∧ jH A s else Q = MQ below (jQc L D ad cA rs A x) args s 0 0 A
/-! ===== rows ===== -/
def jst (i : Nat) (v : Value) (lv : List (Nat × Value)) : List (Nat × Value) := (i, v) :: lv.filter (fun q => !(q.1 == i) && !(q.1 + 1 == i && q.2.category == 2))
def okI (i : Int32) (n : Nat) : Bool := decide (¬ i < 0) && decide (i.toNatClampNeg < n)
theorem okI_in {i : Int32} {n : Nat} (h : okI i n = true) : vp_in i n := by
  simp only [okI, Bool.and_eq_true, decide_eq_true_eq] at h
  exact fun q => q.elim h.1 (fun z => absurd h.2 (Nat.not_lt.mpr z))
theorem okI_lt {i : Int32} {n : Nat} (h : okI i n = true) : i.toNatClampNeg < n := by
  simp only [okI, Bool.and_eq_true, decide_eq_true_eq] at h
  exact h.2
def okB (v : Int32) : Bool := decide (v = 0) || decide (v = 1)
theorem okB_or {v : Int32} (h : okB v = true) : v = 0 ∨ v = 1 := by
  simpa [okB] using h
theorem okB_n {v : Int32} (h : okB v = true) : narrow .boolean (.int v) = .int v := by
  rcases okB_or h with rfl | rfl <;> rfl
theorem okB_f {v : Int32} (h : okB v = true) : fits .boolean (.int v) = true := by
  rcases okB_or h with rfl | rfl <;> rfl
theorem g_if {α : Type} {c : Prop} [Decidable c] {a : Option α} {r : α} (hr : (if c then a else none) = some r) : c ∧ a = some r := by
  by_cases h : c
  · rw [if_pos h] at hr; exact ⟨h, hr⟩
  · rw [if_neg h] at hr; cases hr
theorem g_bd {α β : Type} {a : Option α} {g : α → Option β} {r : β} (hr : a.bind g = some r) : ∃ v, a = some v ∧ g v = some r := by
  cases a with
  | none => cases hr
  | some v => exact ⟨v, rfl, hr⟩
/-- a loop: what is left for the body, at most n times -/
def loopF {A B : Type} (f : (A → Option B) → A → Option B) : Nat → A → Option B
  | 0 => fun _ => none
  | n + 1 => f (loopF f n)
section JR
variable {L : Lay} {n : Nat} {cc : ByteArray} {own : String} {ret : Option FieldType} {d : Nat} {κ : JK} {X : JX} {pc : Nat} {lv : List (Nat × Value)} {st : List Value} {β : Type} {r : β}

theorem j_iconst (K : jOk n cc own ret d κ) {z : Int} {v : Int32} (dg : decode cc pc = .ok (.iconst z, 1)) (hv : Int32.ofInt z = v) (k : J L n κ X (pc + 1) lv (.int v :: st)) : J L n κ X pc lv st := by
  obtain ⟨p, l, e, R, s, m, args, below, meth, c, D, A, ad, cA, rs, Q⟩ := κ
  obtain ⟨hx, hb, hml, hown, hts, hr0, hlk, hK, hA, hfr, hlo, hN⟩ := K
  intro H locs ls hP hD hS hl
  exact lv_iconst hx hb dg hv (k H locs ls hP hD hS hl)
theorem j_bipush (K : jOk n cc own ret d κ) {z : Int} {v : Int32} (dg : decode cc pc = .ok (.bipush z, 2)) (hv : (Int8.ofInt z).toInt32 = v) (k : J L n κ X (pc + 2) lv (.int v :: st)) : J L n κ X pc lv st := by
  obtain ⟨p, l, e, R, s, m, args, below, meth, c, D, A, ad, cA, rs, Q⟩ := κ
  obtain ⟨hx, hb, hml, hown, hts, hr0, hlk, hK, hA, hfr, hlo, hN⟩ := K
  intro H locs ls hP hD hS hl
  exact lv_bipush hx hb dg hv (k H locs ls hP hD hS hl)
theorem j_sipush (K : jOk n cc own ret d κ) {z : Int} {v : Int32} (dg : decode cc pc = .ok (.sipush z, 3)) (hv : (Int16.ofInt z).toInt32 = v) (k : J L n κ X (pc + 3) lv (.int v :: st)) : J L n κ X pc lv st := by
  obtain ⟨p, l, e, R, s, m, args, below, meth, c, D, A, ad, cA, rs, Q⟩ := κ
  obtain ⟨hx, hb, hml, hown, hts, hr0, hlk, hK, hA, hfr, hlo, hN⟩ := K
  intro H locs ls hP hD hS hl
  exact lv_sipush hx hb dg hv (k H locs ls hP hD hS hl)
theorem j_ldc (K : jOk n cc own ret d κ) {idx : Nat} {v : Int32} (h : Cond.constant own idx v ∈ gTbl) (dg : decode cc pc = .ok (.ldc idx, 2)) (k : J L n κ X (pc + 2) lv (.int v :: st)) : J L n κ X pc lv st := by
  obtain ⟨p, l, e, R, s, m, args, below, meth, c, D, A, ad, cA, rs, Q⟩ := κ
  obtain ⟨hx, hb, hml, hown, hts, hr0, hlk, hK, hA, hfr, hlo, hN⟩ := K
  intro H locs ls hP hD hS hl
  exact lv_ldc hx hb hown (hts _ h) dg (k H locs ls hP hD hS hl)
theorem j_lconst (K : jOk n cc own ret d κ) {z : Fin 2} {v : Int64} (dg : decode cc pc = .ok (.lconst z, 1)) (hv : Int64.ofNat (z : Nat) = v) (k : J L n κ X (pc + 1) lv (.long v :: st)) : J L n κ X pc lv st := by
  obtain ⟨p, l, e, R, s, m, args, below, meth, c, D, A, ad, cA, rs, Q⟩ := κ
  obtain ⟨hx, hb, hml, hown, hts, hr0, hlk, hK, hA, hfr, hlo, hN⟩ := K
  intro H locs ls hP hD hS hl
  exact lv_lconst hx hb dg hv (k H locs ls hP hD hS hl)
theorem j_null (K : jOk n cc own ret d κ) (dg : decode cc pc = .ok (.aconst_null, 1)) (k : J L n κ X (pc + 1) lv (.null :: st)) : J L n κ X pc lv st := by
  obtain ⟨p, l, e, R, s, m, args, below, meth, c, D, A, ad, cA, rs, Q⟩ := κ
  obtain ⟨hx, hb, hml, hown, hts, hr0, hlk, hK, hA, hfr, hlo, hN⟩ := K
  intro H locs ls hP hD hS hl
  exact lv_null hx hb dg (k H locs ls hP hD hS hl)
theorem j_iload_n (K : jOk n cc own ret d κ) {i : Fin 4} {x : Int32} (dg : decode cc pc = .ok (.iload_n i, 1)) (q : Nat) (h : lv[q]? = some ((i : Nat), .int x)) (k : J L n κ X (pc + 1) lv (.int x :: st)) : J L n κ X pc lv st := by
  obtain ⟨p, l, e, R, s, m, args, below, meth, c, D, A, ad, cA, rs, Q⟩ := κ
  obtain ⟨hx, hb, hml, hown, hts, hr0, hlk, hK, hA, hfr, hlo, hN⟩ := K
  intro H locs ls hP hD hS hl
  exact lv_iload_n hx hb dg rfl (lv_at hl q h) (k H locs ls hP hD hS hl)
theorem j_iload (K : jOk n cc own ret d κ) {i : Nat} {x : Int32} (dg : decode cc pc = .ok (.iload i, 2)) (q : Nat) (h : lv[q]? = some (i, .int x)) (k : J L n κ X (pc + 2) lv (.int x :: st)) : J L n κ X pc lv st := by
  obtain ⟨p, l, e, R, s, m, args, below, meth, c, D, A, ad, cA, rs, Q⟩ := κ
  obtain ⟨hx, hb, hml, hown, hts, hr0, hlk, hK, hA, hfr, hlo, hN⟩ := K
  intro H locs ls hP hD hS hl
  exact lv_iload hx hb dg (lv_at hl q h) (k H locs ls hP hD hS hl)
theorem j_aload_n (K : jOk n cc own ret d κ) {i : Fin 4} {x : Nat} (dg : decode cc pc = .ok (.aload_n i, 1)) (q : Nat) (h : lv[q]? = some ((i : Nat), .ref x)) (k : J L n κ X (pc + 1) lv (.ref x :: st)) : J L n κ X pc lv st := by
  obtain ⟨p, l, e, R, s, m, args, below, meth, c, D, A, ad, cA, rs, Q⟩ := κ
  obtain ⟨hx, hb, hml, hown, hts, hr0, hlk, hK, hA, hfr, hlo, hN⟩ := K
  intro H locs ls hP hD hS hl
  exact lv_aload_n hx hb dg rfl (lv_at hl q h) (k H locs ls hP hD hS hl)
theorem j_aload (K : jOk n cc own ret d κ) {i : Nat} {x : Nat} (dg : decode cc pc = .ok (.aload i, 2)) (q : Nat) (h : lv[q]? = some (i, .ref x)) (k : J L n κ X (pc + 2) lv (.ref x :: st)) : J L n κ X pc lv st := by
  obtain ⟨p, l, e, R, s, m, args, below, meth, c, D, A, ad, cA, rs, Q⟩ := κ
  obtain ⟨hx, hb, hml, hown, hts, hr0, hlk, hK, hA, hfr, hlo, hN⟩ := K
  intro H locs ls hP hD hS hl
  exact lv_aload hx hb dg (lv_at hl q h) (k H locs ls hP hD hS hl)
theorem j_aload_nN (K : jOk n cc own ret d κ) {i : Fin 4} (dg : decode cc pc = .ok (.aload_n i, 1)) (q : Nat) (h : lv[q]? = some ((i : Nat), .null)) (k : J L n κ X (pc + 1) lv (.null :: st)) : J L n κ X pc lv st := by
  obtain ⟨p, l, e, R, s, m, args, below, meth, c, D, A, ad, cA, rs, Q⟩ := κ
  obtain ⟨hx, hb, hml, hown, hts, hr0, hlk, hK, hA, hfr, hlo, hN⟩ := K
  intro H locs ls hP hD hS hl
  exact lv_aload_nN hx hb dg rfl (lv_at hl q h) (k H locs ls hP hD hS hl)
theorem j_aloadN (K : jOk n cc own ret d κ) {i : Nat} (dg : decode cc pc = .ok (.aload i, 2)) (q : Nat) (h : lv[q]? = some (i, .null)) (k : J L n κ X (pc + 2) lv (.null :: st)) : J L n κ X pc lv st := by
  obtain ⟨p, l, e, R, s, m, args, below, meth, c, D, A, ad, cA, rs, Q⟩ := κ
  obtain ⟨hx, hb, hml, hown, hts, hr0, hlk, hK, hA, hfr, hlo, hN⟩ := K
  intro H locs ls hP hD hS hl
  exact lv_aloadN hx hb dg (lv_at hl q h) (k H locs ls hP hD hS hl)
theorem j_istore_n (K : jOk n cc own ret d κ) {i : Fin 4} {x : Int32} (dg : decode cc pc = .ok (.istore_n i, 1)) (hn : (i : Nat) < n) (k : J L n κ X (pc + 1) (jst (i : Nat) (.int x) lv) st) : J L n κ X pc lv (.int x :: st) := by
  obtain ⟨p, l, e, R, s, m, args, below, meth, c, D, A, ad, cA, rs, Q⟩ := κ
  obtain ⟨hx, hb, hml, hown, hts, hr0, hlk, hK, hA, hfr, hlo, hN⟩ := K
  intro H locs ls hP hD hS hl
  exact lv_istore_n hx hb dg rfl hl hn rfl (fun ls hl => k H locs ls hP hD hS hl)
theorem j_istore (K : jOk n cc own ret d κ) {i : Nat} {x : Int32} (dg : decode cc pc = .ok (.istore i, 2)) (hn : i < n) (k : J L n κ X (pc + 2) (jst i (.int x) lv) st) : J L n κ X pc lv (.int x :: st) := by
  obtain ⟨p, l, e, R, s, m, args, below, meth, c, D, A, ad, cA, rs, Q⟩ := κ
  obtain ⟨hx, hb, hml, hown, hts, hr0, hlk, hK, hA, hfr, hlo, hN⟩ := K
  intro H locs ls hP hD hS hl
  exact lv_istore hx hb dg hl hn rfl (fun ls hl => k H locs ls hP hD hS hl)
theorem j_astore_n (K : jOk n cc own ret d κ) {i : Fin 4} {x : Nat} (dg : decode cc pc = .ok (.astore_n i, 1)) (hn : (i : Nat) < n) (k : J L n κ X (pc + 1) (jst (i : Nat) (.ref x) lv) st) : J L n κ X pc lv (.ref x :: st) := by
  obtain ⟨p, l, e, R, s, m, args, below, meth, c, D, A, ad, cA, rs, Q⟩ := κ
  obtain ⟨hx, hb, hml, hown, hts, hr0, hlk, hK, hA, hfr, hlo, hN⟩ := K
  intro H locs ls hP hD hS hl
  exact lv_astore_n hx hb dg rfl hl hn rfl (fun ls hl => k H locs ls hP hD hS hl)
theorem j_astore (K : jOk n cc own ret d κ) {i : Nat} {x : Nat} (dg : decode cc pc = .ok (.astore i, 2)) (hn : i < n) (k : J L n κ X (pc + 2) (jst i (.ref x) lv) st) : J L n κ X pc lv (.ref x :: st) := by
  obtain ⟨p, l, e, R, s, m, args, below, meth, c, D, A, ad, cA, rs, Q⟩ := κ
  obtain ⟨hx, hb, hml, hown, hts, hr0, hlk, hK, hA, hfr, hlo, hN⟩ := K
  intro H locs ls hP hD hS hl
  exact lv_astore hx hb dg hl hn rfl (fun ls hl => k H locs ls hP hD hS hl)
theorem j_astore_nN (K : jOk n cc own ret d κ) {i : Fin 4} (dg : decode cc pc = .ok (.astore_n i, 1)) (hn : (i : Nat) < n) (k : J L n κ X (pc + 1) (jst (i : Nat) .null lv) st) : J L n κ X pc lv (.null :: st) := by
  obtain ⟨p, l, e, R, s, m, args, below, meth, c, D, A, ad, cA, rs, Q⟩ := κ
  obtain ⟨hx, hb, hml, hown, hts, hr0, hlk, hK, hA, hfr, hlo, hN⟩ := K
  intro H locs ls hP hD hS hl
  exact lv_astore_nN hx hb dg rfl hl hn rfl (fun ls hl => k H locs ls hP hD hS hl)
theorem j_astoreN (K : jOk n cc own ret d κ) {i : Nat} (dg : decode cc pc = .ok (.astore i, 2)) (hn : i < n) (k : J L n κ X (pc + 2) (jst i .null lv) st) : J L n κ X pc lv (.null :: st) := by
  obtain ⟨p, l, e, R, s, m, args, below, meth, c, D, A, ad, cA, rs, Q⟩ := κ
  obtain ⟨hx, hb, hml, hown, hts, hr0, hlk, hK, hA, hfr, hlo, hN⟩ := K
  intro H locs ls hP hD hS hl
  exact lv_astoreN hx hb dg hl hn rfl (fun ls hl => k H locs ls hP hD hS hl)
theorem j_iinc (K : jOk n cc own ret d κ) {i : Nat} {z : Int} {x v : Int32} (dg : decode cc pc = .ok (.iinc i z, 3)) (q : Nat) (h : lv[q]? = some (i, .int x)) (hz : Int32.ofInt z = v) (hn : i < n) (k : J L n κ X (pc + 3) (jst i (.int (x + v)) lv) st) : J L n κ X pc lv st := by
  obtain ⟨p, l, e, R, s, m, args, below, meth, c, D, A, ad, cA, rs, Q⟩ := κ
  obtain ⟨hx, hb, hml, hown, hts, hr0, hlk, hK, hA, hfr, hlo, hN⟩ := K
  intro H locs ls hP hD hS hl
  subst hz; exact lv_iinc hx hb dg hl h rfl hn rfl (fun ls hl => k H locs ls hP hD hS hl)
theorem j_iadd (K : jOk n cc own ret d κ) {x y : Int32} (dg : decode cc pc = .ok (.iadd, 1)) (k : J L n κ X (pc + 1) lv (.int (x + y) :: st)) : J L n κ X pc lv (.int y :: .int x :: st) := by
  obtain ⟨p, l, e, R, s, m, args, below, meth, c, D, A, ad, cA, rs, Q⟩ := κ
  obtain ⟨hx, hb, hml, hown, hts, hr0, hlk, hK, hA, hfr, hlo, hN⟩ := K
  intro H locs ls hP hD hS hl
  exact lv_iadd hx hb dg (k H locs ls hP hD hS hl)
theorem j_isub (K : jOk n cc own ret d κ) {x y : Int32} (dg : decode cc pc = .ok (.isub, 1)) (k : J L n κ X (pc + 1) lv (.int (x - y) :: st)) : J L n κ X pc lv (.int y :: .int x :: st) := by
  obtain ⟨p, l, e, R, s, m, args, below, meth, c, D, A, ad, cA, rs, Q⟩ := κ
  obtain ⟨hx, hb, hml, hown, hts, hr0, hlk, hK, hA, hfr, hlo, hN⟩ := K
  intro H locs ls hP hD hS hl
  exact lv_isub hx hb dg (k H locs ls hP hD hS hl)
theorem j_imul (K : jOk n cc own ret d κ) {x y : Int32} (dg : decode cc pc = .ok (.imul, 1)) (k : J L n κ X (pc + 1) lv (.int (x * y) :: st)) : J L n κ X pc lv (.int y :: .int x :: st) := by
  obtain ⟨p, l, e, R, s, m, args, below, meth, c, D, A, ad, cA, rs, Q⟩ := κ
  obtain ⟨hx, hb, hml, hown, hts, hr0, hlk, hK, hA, hfr, hlo, hN⟩ := K
  intro H locs ls hP hD hS hl
  exact lv_imul hx hb dg (k H locs ls hP hD hS hl)
theorem j_iand (K : jOk n cc own ret d κ) {x y : Int32} (dg : decode cc pc = .ok (.iand, 1)) (k : J L n κ X (pc + 1) lv (.int (x &&& y) :: st)) : J L n κ X pc lv (.int y :: .int x :: st) := by
  obtain ⟨p, l, e, R, s, m, args, below, meth, c, D, A, ad, cA, rs, Q⟩ := κ
  obtain ⟨hx, hb, hml, hown, hts, hr0, hlk, hK, hA, hfr, hlo, hN⟩ := K
  intro H locs ls hP hD hS hl
  exact lv_iand hx hb dg (k H locs ls hP hD hS hl)
theorem j_ishr (K : jOk n cc own ret d κ) {x y : Int32} (dg : decode cc pc = .ok (.ishr, 1)) (k : J L n κ X (pc + 1) lv (.int (x >>> (y &&& 31)) :: st)) : J L n κ X pc lv (.int y :: .int x :: st) := by
  obtain ⟨p, l, e, R, s, m, args, below, meth, c, D, A, ad, cA, rs, Q⟩ := κ
  obtain ⟨hx, hb, hml, hown, hts, hr0, hlk, hK, hA, hfr, hlo, hN⟩ := K
  intro H locs ls hP hD hS hl
  exact lv_ishr hx hb dg (k H locs ls hP hD hS hl)
theorem j_idiv (K : jOk n cc own ret d κ) {x y : Int32} (dg : decode cc pc = .ok (.idiv, 1)) (hy : ¬ y = 0) (k : J L n κ X (pc + 1) lv (.int (x / y) :: st)) : J L n κ X pc lv (.int y :: .int x :: st) := by
  obtain ⟨p, l, e, R, s, m, args, below, meth, c, D, A, ad, cA, rs, Q⟩ := κ
  obtain ⟨hx, hb, hml, hown, hts, hr0, hlk, hK, hA, hfr, hlo, hN⟩ := K
  intro H locs ls hP hD hS hl
  exact lv_idiv hx hb dg hy (k H locs ls hP hD hS hl)
theorem j_irem (K : jOk n cc own ret d κ) {x y : Int32} (dg : decode cc pc = .ok (.irem, 1)) (hy : ¬ y = 0) (k : J L n κ X (pc + 1) lv (.int (x - x / y * y) :: st)) : J L n κ X pc lv (.int y :: .int x :: st) := by
  obtain ⟨p, l, e, R, s, m, args, below, meth, c, D, A, ad, cA, rs, Q⟩ := κ
  obtain ⟨hx, hb, hml, hown, hts, hr0, hlk, hK, hA, hfr, hlo, hN⟩ := K
  intro H locs ls hP hD hS hl
  exact lv_irem hx hb dg hy (k H locs ls hP hD hS hl)
theorem j_dup (K : jOk n cc own ret d κ) {v : Value} (dg : decode cc pc = .ok (.dup, 1)) (hv : v.category = 1) (k : J L n κ X (pc + 1) lv (v :: v :: st)) : J L n κ X pc lv (v :: st) := by
  obtain ⟨p, l, e, R, s, m, args, below, meth, c, D, A, ad, cA, rs, Q⟩ := κ
  obtain ⟨hx, hb, hml, hown, hts, hr0, hlk, hK, hA, hfr, hlo, hN⟩ := K
  intro H locs ls hP hD hS hl
  exact lv_dup hx hb dg hv (k H locs ls hP hD hS hl)
theorem j_pop (K : jOk n cc own ret d κ) {v : Value} (dg : decode cc pc = .ok (.pop, 1)) (hv : v.category = 1) (k : J L n κ X (pc + 1) lv st) : J L n κ X pc lv (v :: st) := by
  obtain ⟨p, l, e, R, s, m, args, below, meth, c, D, A, ad, cA, rs, Q⟩ := κ
  obtain ⟨hx, hb, hml, hown, hts, hr0, hlk, hK, hA, hfr, hlo, hN⟩ := K
  intro H locs ls hP hD hS hl
  exact lv_pop hx hb dg hv (k H locs ls hP hD hS hl)
theorem j_dup2 (K : jOk n cc own ret d κ) {v u : Value} (dg : decode cc pc = .ok (.dup2, 1)) (hv : v.category = 1) (hu : u.category = 1) (k : J L n κ X (pc + 1) lv (v :: u :: v :: u :: st)) : J L n κ X pc lv (v :: u :: st) := by
  obtain ⟨p, l, e, R, s, m, args, below, meth, c, D, A, ad, cA, rs, Q⟩ := κ
  obtain ⟨hx, hb, hml, hown, hts, hr0, hlk, hK, hA, hfr, hlo, hN⟩ := K
  intro H locs ls hP hD hS hl
  exact lv_dup2_11 hx hb dg hv hu (k H locs ls hP hD hS hl)
theorem j_dup_x1 (K : jOk n cc own ret d κ) {v u : Value} (dg : decode cc pc = .ok (.dup_x1, 1)) (hv : v.category = 1) (hu : u.category = 1) (k : J L n κ X (pc + 1) lv (v :: u :: v :: st)) : J L n κ X pc lv (v :: u :: st) := by
  obtain ⟨p, l, e, R, s, m, args, below, meth, c, D, A, ad, cA, rs, Q⟩ := κ
  obtain ⟨hx, hb, hml, hown, hts, hr0, hlk, hK, hA, hfr, hlo, hN⟩ := K
  intro H locs ls hP hD hS hl
  exact lv_dup_x1 hx hb dg hv hu (k H locs ls hP hD hS hl)
theorem j_if_eq (K : jOk n cc own ret d κ) {x : Int32} {off : Int} {tgt : Nat} {a b : Option β} (dg : decode cc pc = .ok (.ifCond .eq off, 3)) (ht : (pc : Int) + off = (tgt : Int)) (hr : (if x = 0 then a else b) = some r) (kt : a = some r → J L n κ X tgt lv st) (kf : b = some r → J L n κ X (pc + 3) lv st) : J L n κ X pc lv (.int x :: st) := by
  obtain ⟨p, l, e, R, s, m, args, below, meth, c, D, A, ad, cA, rs, Q⟩ := κ
  obtain ⟨hx, hb, hml, hown, hts, hr0, hlk, hK, hA, hfr, hlo, hN⟩ := K
  intro H locs ls hP hD hS hl
  exact lv_if_eq hx hb dg ht (fun h => kt (by rw [if_pos h] at hr; exact hr) H locs ls hP hD hS hl) (fun h => kf (by rw [if_neg h] at hr; exact hr) H locs ls hP hD hS hl)
theorem j_icmp_eq (K : jOk n cc own ret d κ) {x y : Int32} {off : Int} {tgt : Nat} {a b : Option β} (dg : decode cc pc = .ok (.if_icmp .eq off, 3)) (ht : (pc : Int) + off = (tgt : Int)) (hr : (if x = y then a else b) = some r) (kt : a = some r → J L n κ X tgt lv st) (kf : b = some r → J L n κ X (pc + 3) lv st) : J L n κ X pc lv (.int y :: .int x :: st) := by
  obtain ⟨p, l, e, R, s, m, args, below, meth, c, D, A, ad, cA, rs, Q⟩ := κ
  obtain ⟨hx, hb, hml, hown, hts, hr0, hlk, hK, hA, hfr, hlo, hN⟩ := K
  intro H locs ls hP hD hS hl
  exact lv_icmp_eq hx hb dg ht (fun h => kt (by rw [if_pos h] at hr; exact hr) H locs ls hP hD hS hl) (fun h => kf (by rw [if_neg h] at hr; exact hr) H locs ls hP hD hS hl)
theorem j_if_ne (K : jOk n cc own ret d κ) {x : Int32} {off : Int} {tgt : Nat} {a b : Option β} (dg : decode cc pc = .ok (.ifCond .ne off, 3)) (ht : (pc : Int) + off = (tgt : Int)) (hr : (if ¬ x = 0 then a else b) = some r) (kt : a = some r → J L n κ X tgt lv st) (kf : b = some r → J L n κ X (pc + 3) lv st) : J L n κ X pc lv (.int x :: st) := by
  obtain ⟨p, l, e, R, s, m, args, below, meth, c, D, A, ad, cA, rs, Q⟩ := κ
  obtain ⟨hx, hb, hml, hown, hts, hr0, hlk, hK, hA, hfr, hlo, hN⟩ := K
  intro H locs ls hP hD hS hl
  exact lv_if_ne hx hb dg ht (fun h => kt (by rw [if_pos h] at hr; exact hr) H locs ls hP hD hS hl) (fun h => kf (by rw [if_neg (fun q => q h)] at hr; exact hr) H locs ls hP hD hS hl)
theorem j_icmp_ne (K : jOk n cc own ret d κ) {x y : Int32} {off : Int} {tgt : Nat} {a b : Option β} (dg : decode cc pc = .ok (.if_icmp .ne off, 3)) (ht : (pc : Int) + off = (tgt : Int)) (hr : (if ¬ x = y then a else b) = some r) (kt : a = some r → J L n κ X tgt lv st) (kf : b = some r → J L n κ X (pc + 3) lv st) : J L n κ X pc lv (.int y :: .int x :: st) := by
  obtain ⟨p, l, e, R, s, m, args, below, meth, c, D, A, ad, cA, rs, Q⟩ := κ
  obtain ⟨hx, hb, hml, hown, hts, hr0, hlk, hK, hA, hfr, hlo, hN⟩ := K
  intro H locs ls hP hD hS hl
  exact lv_icmp_ne hx hb dg ht (fun h => kt (by rw [if_pos h] at hr; exact hr) H locs ls hP hD hS hl) (fun h => kf (by rw [if_neg (fun q => q h)] at hr; exact hr) H locs ls hP hD hS hl)
theorem j_if_lt (K : jOk n cc own ret d κ) {x : Int32} {off : Int} {tgt : Nat} {a b : Option β} (dg : decode cc pc = .ok (.ifCond .lt off, 3)) (ht : (pc : Int) + off = (tgt : Int)) (hr : (if x < 0 then a else b) = some r) (kt : a = some r → J L n κ X tgt lv st) (kf : b = some r → J L n κ X (pc + 3) lv st) : J L n κ X pc lv (.int x :: st) := by
  obtain ⟨p, l, e, R, s, m, args, below, meth, c, D, A, ad, cA, rs, Q⟩ := κ
  obtain ⟨hx, hb, hml, hown, hts, hr0, hlk, hK, hA, hfr, hlo, hN⟩ := K
  intro H locs ls hP hD hS hl
  exact lv_if_lt hx hb dg ht (fun h => kt (by rw [if_pos h] at hr; exact hr) H locs ls hP hD hS hl) (fun h => kf (by rw [if_neg h] at hr; exact hr) H locs ls hP hD hS hl)
theorem j_icmp_lt (K : jOk n cc own ret d κ) {x y : Int32} {off : Int} {tgt : Nat} {a b : Option β} (dg : decode cc pc = .ok (.if_icmp .lt off, 3)) (ht : (pc : Int) + off = (tgt : Int)) (hr : (if x < y then a else b) = some r) (kt : a = some r → J L n κ X tgt lv st) (kf : b = some r → J L n κ X (pc + 3) lv st) : J L n κ X pc lv (.int y :: .int x :: st) := by
  obtain ⟨p, l, e, R, s, m, args, below, meth, c, D, A, ad, cA, rs, Q⟩ := κ
  obtain ⟨hx, hb, hml, hown, hts, hr0, hlk, hK, hA, hfr, hlo, hN⟩ := K
  intro H locs ls hP hD hS hl
  exact lv_icmp_lt hx hb dg ht (fun h => kt (by rw [if_pos h] at hr; exact hr) H locs ls hP hD hS hl) (fun h => kf (by rw [if_neg h] at hr; exact hr) H locs ls hP hD hS hl)
theorem j_if_ge (K : jOk n cc own ret d κ) {x : Int32} {off : Int} {tgt : Nat} {a b : Option β} (dg : decode cc pc = .ok (.ifCond .ge off, 3)) (ht : (pc : Int) + off = (tgt : Int)) (hr : (if 0 ≤ x then a else b) = some r) (kt : a = some r → J L n κ X tgt lv st) (kf : b = some r → J L n κ X (pc + 3) lv st) : J L n κ X pc lv (.int x :: st) := by
  obtain ⟨p, l, e, R, s, m, args, below, meth, c, D, A, ad, cA, rs, Q⟩ := κ
  obtain ⟨hx, hb, hml, hown, hts, hr0, hlk, hK, hA, hfr, hlo, hN⟩ := K
  intro H locs ls hP hD hS hl
  exact lv_if_ge hx hb dg ht (fun h => kt (by rw [if_pos h] at hr; exact hr) H locs ls hP hD hS hl) (fun h => kf (by rw [if_neg h] at hr; exact hr) H locs ls hP hD hS hl)
theorem j_icmp_ge (K : jOk n cc own ret d κ) {x y : Int32} {off : Int} {tgt : Nat} {a b : Option β} (dg : decode cc pc = .ok (.if_icmp .ge off, 3)) (ht : (pc : Int) + off = (tgt : Int)) (hr : (if y ≤ x then a else b) = some r) (kt : a = some r → J L n κ X tgt lv st) (kf : b = some r → J L n κ X (pc + 3) lv st) : J L n κ X pc lv (.int y :: .int x :: st) := by
  obtain ⟨p, l, e, R, s, m, args, below, meth, c, D, A, ad, cA, rs, Q⟩ := κ
  obtain ⟨hx, hb, hml, hown, hts, hr0, hlk, hK, hA, hfr, hlo, hN⟩ := K
  intro H locs ls hP hD hS hl
  exact lv_icmp_ge hx hb dg ht (fun h => kt (by rw [if_pos h] at hr; exact hr) H locs ls hP hD hS hl) (fun h => kf (by rw [if_neg h] at hr; exact hr) H locs ls hP hD hS hl)
theorem j_if_gt (K : jOk n cc own ret d κ) {x : Int32} {off : Int} {tgt : Nat} {a b : Option β} (dg : decode cc pc = .ok (.ifCond .gt off, 3)) (ht : (pc : Int) + off = (tgt : Int)) (hr : (if 0 < x then a else b) = some r) (kt : a = some r → J L n κ X tgt lv st) (kf : b = some r → J L n κ X (pc + 3) lv st) : J L n κ X pc lv (.int x :: st) := by
  obtain ⟨p, l, e, R, s, m, args, below, meth, c, D, A, ad, cA, rs, Q⟩ := κ
  obtain ⟨hx, hb, hml, hown, hts, hr0, hlk, hK, hA, hfr, hlo, hN⟩ := K
  intro H locs ls hP hD hS hl
  exact lv_if_gt hx hb dg ht (fun h => kt (by rw [if_pos h] at hr; exact hr) H locs ls hP hD hS hl) (fun h => kf (by rw [if_neg h] at hr; exact hr) H locs ls hP hD hS hl)
theorem j_icmp_gt (K : jOk n cc own ret d κ) {x y : Int32} {off : Int} {tgt : Nat} {a b : Option β} (dg : decode cc pc = .ok (.if_icmp .gt off, 3)) (ht : (pc : Int) + off = (tgt : Int)) (hr : (if y < x then a else b) = some r) (kt : a = some r → J L n κ X tgt lv st) (kf : b = some r → J L n κ X (pc + 3) lv st) : J L n κ X pc lv (.int y :: .int x :: st) := by
  obtain ⟨p, l, e, R, s, m, args, below, meth, c, D, A, ad, cA, rs, Q⟩ := κ
  obtain ⟨hx, hb, hml, hown, hts, hr0, hlk, hK, hA, hfr, hlo, hN⟩ := K
  intro H locs ls hP hD hS hl
  exact lv_icmp_gt hx hb dg ht (fun h => kt (by rw [if_pos h] at hr; exact hr) H locs ls hP hD hS hl) (fun h => kf (by rw [if_neg h] at hr; exact hr) H locs ls hP hD hS hl)
theorem j_if_le (K : jOk n cc own ret d κ) {x : Int32} {off : Int} {tgt : Nat} {a b : Option β} (dg : decode cc pc = .ok (.ifCond .le off, 3)) (ht : (pc : Int) + off = (tgt : Int)) (hr : (if x ≤ 0 then a else b) = some r) (kt : a = some r → J L n κ X tgt lv st) (kf : b = some r → J L n κ X (pc + 3) lv st) : J L n κ X pc lv (.int x :: st) := by
  obtain ⟨p, l, e, R, s, m, args, below, meth, c, D, A, ad, cA, rs, Q⟩ := κ
  obtain ⟨hx, hb, hml, hown, hts, hr0, hlk, hK, hA, hfr, hlo, hN⟩ := K
  intro H locs ls hP hD hS hl
  exact lv_if_le hx hb dg ht (fun h => kt (by rw [if_pos h] at hr; exact hr) H locs ls hP hD hS hl) (fun h => kf (by rw [if_neg h] at hr; exact hr) H locs ls hP hD hS hl)
theorem j_icmp_le (K : jOk n cc own ret d κ) {x y : Int32} {off : Int} {tgt : Nat} {a b : Option β} (dg : decode cc pc = .ok (.if_icmp .le off, 3)) (ht : (pc : Int) + off = (tgt : Int)) (hr : (if x ≤ y then a else b) = some r) (kt : a = some r → J L n κ X tgt lv st) (kf : b = some r → J L n κ X (pc + 3) lv st) : J L n κ X pc lv (.int y :: .int x :: st) := by
  obtain ⟨p, l, e, R, s, m, args, below, meth, c, D, A, ad, cA, rs, Q⟩ := κ
  obtain ⟨hx, hb, hml, hown, hts, hr0, hlk, hK, hA, hfr, hlo, hN⟩ := K
  intro H locs ls hP hD hS hl
  exact lv_icmp_le hx hb dg ht (fun h => kt (by rw [if_pos h] at hr; exact hr) H locs ls hP hD hS hl) (fun h => kf (by rw [if_neg h] at hr; exact hr) H locs ls hP hD hS hl)
theorem j_goto (K : jOk n cc own ret d κ) {off : Int} {tgt : Nat} (dg : decode cc pc = .ok (.goto off, 3)) (ht : (pc : Int) + off = (tgt : Int)) (k : J L n κ X tgt lv st) : J L n κ X pc lv st := by
  obtain ⟨p, l, e, R, s, m, args, below, meth, c, D, A, ad, cA, rs, Q⟩ := κ
  obtain ⟨hx, hb, hml, hown, hts, hr0, hlk, hK, hA, hfr, hlo, hN⟩ := K
  intro H locs ls hP hD hS hl
  exact lv_goto hx hb dg ht (k H locs ls hP hD hS hl)
theorem j_ifnull (K : jOk n cc own ret d κ) {a : Nat} {off : Int} (dg : decode cc pc = .ok (.ifnull off, 3)) (k : J L n κ X (pc + 3) lv st) : J L n κ X pc lv (.ref a :: st) := by
  obtain ⟨p, l, e, R, s, m, args, below, meth, c, D, A, ad, cA, rs, Q⟩ := κ
  obtain ⟨hx, hb, hml, hown, hts, hr0, hlk, hK, hA, hfr, hlo, hN⟩ := K
  intro H locs ls hP hD hS hl
  exact lv_ifnull hx hb dg (k H locs ls hP hD hS hl)
theorem j_ifnullN (K : jOk n cc own ret d κ) {off : Int} {tgt : Nat} (dg : decode cc pc = .ok (.ifnull off, 3)) (ht : (pc : Int) + off = (tgt : Int)) (k : J L n κ X tgt lv st) : J L n κ X pc lv (.null :: st) := by
  obtain ⟨p, l, e, R, s, m, args, below, meth, c, D, A, ad, cA, rs, Q⟩ := κ
  obtain ⟨hx, hb, hml, hown, hts, hr0, hlk, hK, hA, hfr, hlo, hN⟩ := K
  intro H locs ls hP hD hS hl
  exact lv_ifnullN hx hb dg ht (k H locs ls hP hD hS hl)
theorem j_ifnonnull (K : jOk n cc own ret d κ) {a : Nat} {off : Int} {tgt : Nat} (dg : decode cc pc = .ok (.ifnonnull off, 3)) (ht : (pc : Int) + off = (tgt : Int)) (k : J L n κ X tgt lv st) : J L n κ X pc lv (.ref a :: st) := by
  obtain ⟨p, l, e, R, s, m, args, below, meth, c, D, A, ad, cA, rs, Q⟩ := κ
  obtain ⟨hx, hb, hml, hown, hts, hr0, hlk, hK, hA, hfr, hlo, hN⟩ := K
  intro H locs ls hP hD hS hl
  exact lv_ifnonnull hx hb dg ht (k H locs ls hP hD hS hl)
theorem j_ifnonnullN (K : jOk n cc own ret d κ) {off : Int} (dg : decode cc pc = .ok (.ifnonnull off, 3)) (k : J L n κ X (pc + 3) lv st) : J L n κ X pc lv (.null :: st) := by
  obtain ⟨p, l, e, R, s, m, args, below, meth, c, D, A, ad, cA, rs, Q⟩ := κ
  obtain ⟨hx, hb, hml, hown, hts, hr0, hlk, hK, hA, hfr, hlo, hN⟩ := K
  intro H locs ls hP hD hS hl
  exact lv_ifnonnullN hx hb dg (k H locs ls hP hD hS hl)
theorem wZ_inj {L : Lay} {ad : Nat → Nat} {cA : Nat → ClassId} {X : JX} {rs : va_W} {A : Nat → Prop} (h : va_D A (wZ L ad cA X ++ rs)) {i j : Nat} (hi : i < L.1) (hj : j < L.1) (e : ad i = ad j) : i = j := h.1 i j _ _ (wZ_get hi) (wZ_get hj) e
theorem j_acmp_eq (K : jOk n cc own ret d κ) {x y : Nat} {off : Int} {tgt : Nat} {a b : Option β} (dg : decode cc pc = .ok (.if_acmp .eq off, 3)) (ht : (pc : Int) + off = (tgt : Int)) (h1 : x < L.1) (h2 : y < L.1) (hr : (if x = y then a else b) = some r) (kt : a = some r → J L n κ X tgt lv st) (kf : b = some r → J L n κ X (pc + 3) lv st) : J L n κ X pc lv (.ref (jad κ y) :: .ref (jad κ x) :: st) := by
  obtain ⟨p, l, e, R, s, m, args, below, meth, c, D, A, ad, cA, rs, Q⟩ := κ
  obtain ⟨hx, hb, hml, hown, hts, hr0, hlk, hK, hA, hfr, hlo, hN⟩ := K
  intro H locs ls hP hD hS hl
  exact lv_acmp_eq (rx := some (ad x)) (ry := some (ad y)) hx hb dg ht (fun h => kt (by rw [if_pos (wZ_inj hD h1 h2 (Option.some.inj h))] at hr; exact hr) H locs ls hP hD hS hl) (fun h => kf (by rw [if_neg (fun q => h (by rw [q]))] at hr; exact hr) H locs ls hP hD hS hl)
theorem j_acmp_eqN (K : jOk n cc own ret d κ) {x : Nat} {off : Int} {tgt : Nat} (dg : decode cc pc = .ok (.if_acmp .eq off, 3)) (ht : (pc : Int) + off = (tgt : Int)) (kf : J L n κ X (pc + 3) lv st) : J L n κ X pc lv (.null :: .ref (jad κ x) :: st) := by
  obtain ⟨p, l, e, R, s, m, args, below, meth, c, D, A, ad, cA, rs, Q⟩ := κ
  obtain ⟨hx, hb, hml, hown, hts, hr0, hlk, hK, hA, hfr, hlo, hN⟩ := K
  intro H locs ls hP hD hS hl
  exact lv_acmp_eq (rx := some (ad x)) (ry := none) hx hb dg ht (fun h => nomatch h) (fun h => kf H locs ls hP hD hS hl)
theorem j_guard {c : Prop} [Decidable c] {a : Option β} (hr : (if c then a else none) = some r) (k : c → a = some r → J L n κ X pc lv st) : J L n κ X pc lv st := k (g_if hr).1 (g_if hr).2
theorem j_sub {lv' : List (Nat × Value)} (ks : List Nat) (h : lv_pick lv ks = lv') (k : J L n κ X pc lv' st) : J L n κ X pc lv st := by
  obtain ⟨p, l, e, R, s, m, args, below, meth, c, D, A, ad, cA, rs, Q⟩ := κ
  intro H locs ls hP hD hS hl
  exact k H locs ls hP hD hS (lv_sub hl ks h)
theorem j_loop {T : Type} {f : (T → Option β) → T → Option β} {P : T → Prop} (h : ∀ rec : T → Option β, (∀ s, rec s = some r → P s) → ∀ s, f rec s = some r → P s) : ∀ (n : Nat) (s : T), loopF f n s = some r → P s
  | 0, _, hr => nomatch hr
  | n + 1, s, hr => h (loopF f n) (j_loop h n) s hr
/-- a field's link: class ci, place j -/
def FLk (own : String) (idx ci j : Nat) : Prop := ∃ q : vw_C, vwCl[ci]? = some q ∧ j < q.2.2 ∧ Cond.fieldLink own idx q.1 (q.2.1 j).2.1 (q.2.1 j).2.2.1 ∈ gTbl ∧ (∀ w ∈ u_ws q.1 q.2.1 q.2.2, w ∈ gTbl) ∧ (q.2.1 j).1 = q.1
def FPk (own : String) (idx ci j : Nat) (ty : FieldType) : Prop := ∃ (q : vw_C) (ty0 : Nat → FieldType), vwCl[ci]? = some q ∧ j < q.2.2 ∧ Cond.fieldLink own idx q.1 (q.2.1 j).2.1 (q.2.1 j).2.2.1 ∈ gTbl ∧ (∀ w ∈ u_ws q.1 q.2.1 q.2.2, w ∈ gTbl) ∧ (q.2.1 j).1 = q.1 ∧ (∀ k, k < q.2.2 → parseFieldDescriptor (q.2.1 k).2.2.1 = some (ty0 k)) ∧ (∀ a, a < q.2.2 → ∀ b, b < q.2.2 → a ≠ b → (q.2.1 a).2.1 ≠ (q.2.1 b).2.1) ∧ (q.2.1 j).2.2.2 = false ∧ parseFieldDescriptor (q.2.1 j).2.2.1 = some ty
theorem cZ_ob {L : Lay} {ad : Nat → Nat} {cA : Nat → ClassId} {f : Nat → Int32} {k ci z : Nat} (h : L.2.1 k = (10 + ci, z)) (hc : ci < 90) : cZ L ad cA f k = .inr (ci, L.2.2 ad f k ci) := by
  unfold cZ
  rw [h]
  obtain ⟨c, hc2⟩ : ∃ c, c = 10 + ci := ⟨_, rfl⟩
  rw [← hc2]
  match c, hc2 with
  | 0, e => omega
  | 1, e => omega
  | 2, e => omega
  | 3, e => omega
  | c + 4, e =>
    show (if c + 4 < 100 then _ else _) = _
    rw [if_pos (by omega), e, Nat.add_sub_cancel_left]
theorem cZ_ou {L : Lay} {ad : Nat → Nat} {cA : Nat → ClassId} {f : Nat → Int32} {k b n : Nat} (h : L.2.1 k = (100 + b, n)) : cZ L ad cA f k = .inl (cA 4, (n, .inr (.inr (.inr (.inr (fun j => if j < n then some (ad (b + j)) else none)))))) := by
  unfold cZ
  rw [h]
  obtain ⟨c, hc2⟩ : ∃ c, c = 100 + b := ⟨_, rfl⟩
  rw [← hc2]
  match c, hc2 with
  | 0, e => omega
  | 1, e => omega
  | 2, e => omega
  | 3, e => omega
  | c + 4, e =>
    show (if c + 4 < 100 then _ else _) = _
    rw [if_neg (by omega), e, Nat.add_sub_cancel_left]
theorem cZ_0 {L : Lay} {ad : Nat → Nat} {cA : Nat → ClassId} {f : Nat → Int32} {k n : Nat} (h : L.2.1 k = (0, n)) : cZ L ad cA f k = .inl (cA 0, (n, .inl f)) := by unfold cZ; rw [h]; rfl
theorem cZ_1 {L : Lay} {ad : Nat → Nat} {cA : Nat → ClassId} {f : Nat → Int32} {k n : Nat} (h : L.2.1 k = (1, n)) : cZ L ad cA f k = .inl (cA 1, (n, .inl f)) := by unfold cZ; rw [h]; rfl
theorem cZ_2 {L : Lay} {ad : Nat → Nat} {cA : Nat → ClassId} {f : Nat → Int32} {k n : Nat} (h : L.2.1 k = (2, n)) : cZ L ad cA f k = .inl (cA 2, (n, .inl f)) := by unfold cZ; rw [h]; rfl
theorem cZ_3 {L : Lay} {ad : Nat → Nat} {cA : Nat → ClassId} {f : Nat → Int32} {k n : Nat} (h : L.2.1 k = (3, n)) : cZ L ad cA f k = .inl (cA 3, (n, .inr (.inr (.inr (.inr (fun j => some (ad (f j).toNatClampNeg))))))) := by unfold cZ; rw [h]; rfl
theorem j_get (K : jOk n cc own ret d κ) {idx ci j k z : Nat} {v : Value} (fl : FLk own idx ci j) (hs : L.2.1 k = (10 + ci, z)) (hk : k < L.1) (hc : ci < 90) (hv : (L.2.2 (jad κ) (X k) k ci)[j]? = some v) (dg : decode cc pc = .ok (.getfield idx, 3)) (kk : J L n κ X (pc + 3) lv (v :: st)) : J L n κ X pc lv (.ref (jad κ k) :: st) := by
  obtain ⟨p, l, e, R, s, m, args, below, meth, c, D, A, ad, cA, rs, Q⟩ := κ
  obtain ⟨hx, hb, hml, hown, hts, hr0, hlk, hK, hA, hfr, hlo, hN⟩ := K
  intro H locs ls hP hD hS hl
  obtain ⟨⟨C, T, N⟩, g1, g2, g3, g4, g5⟩ := fl
  have g6 : T j = (C, (T j).2) := Prod.ext g5 rfl
  refine va_get hx hb hts g4 hown hK hP k (by rw [wZ_get hk, cZ_ob hs hc]; rfl) g1 j g2 (hts _ g3) (fun x h => ?_) hv dg (kk H locs ls hP hD hS hl)
  have g7 : (T j).1 = C := g5
  rw [g7] at h; exact h
theorem j_puti (K : jOk n cc own ret d κ) {idx ci j k z : Nat} {v : Int32} (fl : FPk own idx ci j .int) (hs : L.2.1 k = (10 + ci, z)) (hk : k < L.1) (hc : ci < 90) (hl9 : ∀ f, j < (L.2.2 (jad κ) f k ci).length) (hv : ∀ f, (L.2.2 (jad κ) f k ci).set j (.int v) = L.2.2 (jad κ) (upd f j v) k ci) (dg : decode cc pc = .ok (.putfield idx, 3)) (kk : J L n κ (pX X k (upd (X k) j v)) (pc + 3) lv st) : J L n κ X pc lv (.int v :: .ref (jad κ k) :: st) := by
  obtain ⟨p, l, e, R, s, m, args, below, meth, c, D, A, ad, cA, rs, Q⟩ := κ
  obtain ⟨hx, hb, hml, hown, hts, hr0, hlk, hK, hA, hfr, hlo, hN⟩ := K
  intro H locs ls hP hD hS hl
  obtain ⟨⟨C, T, N⟩, ty0, g1, g2, g3, g4, g5, g6, g7, g8, g9⟩ := fl
  refine va_put hx hb hts g4 ty0 g6 g7 hown hK hP hD hS k (by rw [wZ_get hk, cZ_ob hs hc]; rfl) g1 j g2 (hts _ g3) (fun x h => ?_) g8 g9 rfl rfl (hl9 _) dg (fun H locs hP hD hS => ?_)
  · have g7 : (T j).1 = C := g5
    rw [g7] at h; exact h
  · have e : (jad (p, l, e, R, s, m, args, below, meth, c, D, A, ad, cA, rs, Q) k, (Sum.inr (ci, (L.2.2 (jad (p, l, e, R, s, m, args, below, meth, c, D, A, ad, cA, rs, Q)) (X k) k ci).set j (Value.int v)) : va_E)) = (ad k, cZ L ad cA (pX X k (upd (X k) j v) k) k) := by
      rw [hv, pX_self, cZ_ob hs hc]; rfl
    rw [e, wZ_set hk (fun q h => pX_ne X _ h)] at hP hD
    exact kk H locs ls hP hD hS hl
theorem j_putz (K : jOk n cc own ret d κ) {idx ci j k z : Nat} {v : Int32} (fl : FPk own idx ci j .boolean) (hs : L.2.1 k = (10 + ci, z)) (hk : k < L.1) (hc : ci < 90) (hl9 : ∀ f, j < (L.2.2 (jad κ) f k ci).length) (hv : ∀ f, (L.2.2 (jad κ) f k ci).set j (.int v) = L.2.2 (jad κ) (upd f j v) k ci) (hz : okB v = true) (dg : decode cc pc = .ok (.putfield idx, 3)) (kk : J L n κ (pX X k (upd (X k) j v)) (pc + 3) lv st) : J L n κ X pc lv (.int v :: .ref (jad κ k) :: st) := by
  obtain ⟨p, l, e, R, s, m, args, below, meth, c, D, A, ad, cA, rs, Q⟩ := κ
  obtain ⟨hx, hb, hml, hown, hts, hr0, hlk, hK, hA, hfr, hlo, hN⟩ := K
  intro H locs ls hP hD hS hl
  obtain ⟨⟨C, T, N⟩, ty0, g1, g2, g3, g4, g5, g6, g7, g8, g9⟩ := fl
  refine va_put hx hb hts g4 ty0 g6 g7 hown hK hP hD hS k (by rw [wZ_get hk, cZ_ob hs hc]; rfl) g1 j g2 (hts _ g3) (fun x h => ?_) g8 g9 (okB_n hz) (okB_f hz) (hl9 _) dg (fun H locs hP hD hS => ?_)
  · have g7 : (T j).1 = C := g5
    rw [g7] at h; exact h
  · have e : (jad (p, l, e, R, s, m, args, below, meth, c, D, A, ad, cA, rs, Q) k, (Sum.inr (ci, (L.2.2 (jad (p, l, e, R, s, m, args, below, meth, c, D, A, ad, cA, rs, Q)) (X k) k ci).set j (Value.int v)) : va_E)) = (ad k, cZ L ad cA (pX X k (upd (X k) j v) k) k) := by
      rw [hv, pX_self, cZ_ob hs hc]; rfl
    rw [e, wZ_set hk (fun q h => pX_ne X _ h)] at hP hD
    exact kk H locs ls hP hD hS hl
def FLn (own : String) (idx ci j : Nat) : Prop := ∃ q : vw_C, vwCl[ci]? = some q ∧ j < q.2.2 ∧ (own, idx, q.1, (q.2.1 j).2.1, (q.2.1 j).2.2.1) ∈ nestF ∧ (∀ w ∈ u_ws q.1 q.2.1 q.2.2, w ∈ gTbl) ∧ (q.2.1 j).1 = q.1
def FPn (own : String) (idx ci j : Nat) (ty : FieldType) : Prop := ∃ (q : vw_C) (ty0 : Nat → FieldType), vwCl[ci]? = some q ∧ j < q.2.2 ∧ (own, idx, q.1, (q.2.1 j).2.1, (q.2.1 j).2.2.1) ∈ nestF ∧ (∀ w ∈ u_ws q.1 q.2.1 q.2.2, w ∈ gTbl) ∧ (q.2.1 j).1 = q.1 ∧ (∀ k, k < q.2.2 → parseFieldDescriptor (q.2.1 k).2.2.1 = some (ty0 k)) ∧ (∀ a, a < q.2.2 → ∀ b, b < q.2.2 → a ≠ b → (q.2.1 a).2.1 ≠ (q.2.1 b).2.1) ∧ (q.2.1 j).2.2.2 = false ∧ parseFieldDescriptor (q.2.1 j).2.2.1 = some ty
theorem j_getN (K : jOk n cc own ret d κ) {idx ci j k z : Nat} {v : Value} (fl : FLn own idx ci j) (hs : L.2.1 k = (10 + ci, z)) (hk : k < L.1) (hc : ci < 90) (hv : (L.2.2 (jad κ) (X k) k ci)[j]? = some v) (dg : decode cc pc = .ok (.getfield idx, 3)) (kk : J L n κ X (pc + 3) lv (v :: st)) : J L n κ X pc lv (.ref (jad κ k) :: st) := by
  obtain ⟨p, l, e, R, s, m, args, below, meth, c, D, A, ad, cA, rs, Q⟩ := κ
  obtain ⟨hx, hb, hml, hown, hts, hr0, hlk, hK, hA, hfr, hlo, hN⟩ := K
  intro H locs ls hP hD hS hl
  obtain ⟨⟨C, T, N⟩, g1, g2, g3, g4, g5⟩ := fl
  have h8 := hN.1 _ g3
  refine va_getN hx hb hts g4 hown hK hP k (by rw [wZ_get hk, cZ_ob hs hc]; rfl) g1 j g2 (va_Nw.use rfl h8) (fun x h => ?_) hv dg (kk H locs ls hP hD hS hl)
  have g7 : (T j).1 = C := g5
  rw [g7] at h; exact h
theorem j_putiN (K : jOk n cc own ret d κ) {idx ci j k z : Nat} {v : Int32} (fl : FPn own idx ci j .int) (hs : L.2.1 k = (10 + ci, z)) (hk : k < L.1) (hc : ci < 90) (hl9 : ∀ f, j < (L.2.2 (jad κ) f k ci).length) (hv : ∀ f, (L.2.2 (jad κ) f k ci).set j (.int v) = L.2.2 (jad κ) (upd f j v) k ci) (dg : decode cc pc = .ok (.putfield idx, 3)) (kk : J L n κ (pX X k (upd (X k) j v)) (pc + 3) lv st) : J L n κ X pc lv (.int v :: .ref (jad κ k) :: st) := by
  obtain ⟨p, l, e, R, s, m, args, below, meth, c, D, A, ad, cA, rs, Q⟩ := κ
  obtain ⟨hx, hb, hml, hown, hts, hr0, hlk, hK, hA, hfr, hlo, hN⟩ := K
  intro H locs ls hP hD hS hl
  obtain ⟨⟨C, T, N⟩, ty0, g1, g2, g3, g4, g5, g6, g7, g8, g9⟩ := fl
  have h8 := hN.1 _ g3
  refine va_putN hx hb hts g4 ty0 g6 g7 hown hK hP hD hS k (by rw [wZ_get hk, cZ_ob hs hc]; rfl) g1 j g2 (va_Nw.use rfl h8) (fun x h => ?_) g8 g9 rfl rfl (hl9 _) dg (fun H locs hP hD hS => ?_)
  · have g7 : (T j).1 = C := g5
    rw [g7] at h; exact h
  · have e : (jad (p, l, e, R, s, m, args, below, meth, c, D, A, ad, cA, rs, Q) k, (Sum.inr (ci, (L.2.2 (jad (p, l, e, R, s, m, args, below, meth, c, D, A, ad, cA, rs, Q)) (X k) k ci).set j (Value.int v)) : va_E)) = (ad k, cZ L ad cA (pX X k (upd (X k) j v) k) k) := by
      rw [hv, pX_self, cZ_ob hs hc]; rfl
    rw [e, wZ_set hk (fun q h => pX_ne X _ h)] at hP hD
    exact kk H locs ls hP hD hS hl
theorem j_putzN (K : jOk n cc own ret d κ) {idx ci j k z : Nat} {v : Int32} (fl : FPn own idx ci j .boolean) (hs : L.2.1 k = (10 + ci, z)) (hk : k < L.1) (hc : ci < 90) (hl9 : ∀ f, j < (L.2.2 (jad κ) f k ci).length) (hv : ∀ f, (L.2.2 (jad κ) f k ci).set j (.int v) = L.2.2 (jad κ) (upd f j v) k ci) (hz : okB v = true) (dg : decode cc pc = .ok (.putfield idx, 3)) (kk : J L n κ (pX X k (upd (X k) j v)) (pc + 3) lv st) : J L n κ X pc lv (.int v :: .ref (jad κ k) :: st) := by
  obtain ⟨p, l, e, R, s, m, args, below, meth, c, D, A, ad, cA, rs, Q⟩ := κ
  obtain ⟨hx, hb, hml, hown, hts, hr0, hlk, hK, hA, hfr, hlo, hN⟩ := K
  intro H locs ls hP hD hS hl
  obtain ⟨⟨C, T, N⟩, ty0, g1, g2, g3, g4, g5, g6, g7, g8, g9⟩ := fl
  have h8 := hN.1 _ g3
  refine va_putN hx hb hts g4 ty0 g6 g7 hown hK hP hD hS k (by rw [wZ_get hk, cZ_ob hs hc]; rfl) g1 j g2 (va_Nw.use rfl h8) (fun x h => ?_) g8 g9 (okB_n hz) (okB_f hz) (hl9 _) dg (fun H locs hP hD hS => ?_)
  · have g7 : (T j).1 = C := g5
    rw [g7] at h; exact h
  · have e : (jad (p, l, e, R, s, m, args, below, meth, c, D, A, ad, cA, rs, Q) k, (Sum.inr (ci, (L.2.2 (jad (p, l, e, R, s, m, args, below, meth, c, D, A, ad, cA, rs, Q)) (X k) k ci).set j (Value.int v)) : va_E)) = (ad k, cZ L ad cA (pX X k (upd (X k) j v) k) k) := by
      rw [hv, pX_self, cZ_ob hs hc]; rfl
    rw [e, wZ_set hk (fun q h => pX_ne X _ h)] at hP hD
    exact kk H locs ls hP hD hS hl
theorem j_iaload (K : jOk n cc own ret d κ) {k z : Nat} {i : Int32} {a : Option β} (hs : L.2.1 k = (0, z)) (hk : k < L.1) (dg : decode cc pc = .ok (.iaload, 1)) (hr : (if okI i z = true then a else none) = some r) (kk : a = some r → J L n κ X (pc + 1) lv (.int (X k i.toNatClampNeg) :: st)) : J L n κ X pc lv (.int i :: .ref (jad κ k) :: st) := by
  obtain ⟨p, l, e, R, s, m, args, below, meth, c, D, A, ad, cA, rs, Q⟩ := κ
  obtain ⟨hx, hb, hml, hown, hts, hr0, hlk, hK, hA, hfr, hlo, hN⟩ := K
  intro H locs ls hP hD hS hl
  obtain ⟨h1, h2⟩ := g_if hr
  exact va_iald hx hb hK hP k 0 (by rw [wZ_get hk, cZ_0 hs]; rfl) rfl (okI_in h1) dg (kk h2 H locs ls hP hD hS hl)
theorem j_baload (K : jOk n cc own ret d κ) {k z : Nat} {i : Int32} {a : Option β} (hs : L.2.1 k = (1, z)) (hk : k < L.1) (dg : decode cc pc = .ok (.baload, 1)) (hr : (if okI i z = true then a else none) = some r) (kk : a = some r → J L n κ X (pc + 1) lv (.int (X k i.toNatClampNeg) :: st)) : J L n κ X pc lv (.int i :: .ref (jad κ k) :: st) := by
  obtain ⟨p, l, e, R, s, m, args, below, meth, c, D, A, ad, cA, rs, Q⟩ := κ
  obtain ⟨hx, hb, hml, hown, hts, hr0, hlk, hK, hA, hfr, hlo, hN⟩ := K
  intro H locs ls hP hD hS hl
  obtain ⟨h1, h2⟩ := g_if hr
  exact va_zald hx hb hK hP k 1 (by rw [wZ_get hk, cZ_1 hs]; rfl) rfl (okI_in h1) dg (kk h2 H locs ls hP hD hS hl)
theorem j_caload (K : jOk n cc own ret d κ) {k z : Nat} {i : Int32} {a : Option β} (hs : L.2.1 k = (2, z)) (hk : k < L.1) (dg : decode cc pc = .ok (.caload, 1)) (hr : (if okI i z = true then a else none) = some r) (kk : a = some r → J L n κ X (pc + 1) lv (.int (X k i.toNatClampNeg) :: st)) : J L n κ X pc lv (.int i :: .ref (jad κ k) :: st) := by
  obtain ⟨p, l, e, R, s, m, args, below, meth, c, D, A, ad, cA, rs, Q⟩ := κ
  obtain ⟨hx, hb, hml, hown, hts, hr0, hlk, hK, hA, hfr, hlo, hN⟩ := K
  intro H locs ls hP hD hS hl
  obtain ⟨h1, h2⟩ := g_if hr
  exact va_cald hx hb hK hP k 2 (by rw [wZ_get hk, cZ_2 hs]; rfl) rfl (okI_in h1) dg (kk h2 H locs ls hP hD hS hl)
theorem j_iastore (K : jOk n cc own ret d κ) {k z : Nat} {i v : Int32} {a : Option β} (hs : L.2.1 k = (0, z)) (hk : k < L.1) (dg : decode cc pc = .ok (.iastore, 1)) (hr : (if okI i z = true then a else none) = some r) (kk : a = some r → J L n κ (pX X k (upd (X k) i.toNatClampNeg v)) (pc + 1) lv st) : J L n κ X pc lv (.int v :: .int i :: .ref (jad κ k) :: st) := by
  obtain ⟨p, l, e, R, s, m, args, below, meth, c, D, A, ad, cA, rs, Q⟩ := κ
  obtain ⟨hx, hb, hml, hown, hts, hr0, hlk, hK, hA, hfr, hlo, hN⟩ := K
  intro H locs ls hP hD hS hl
  obtain ⟨h1, h2⟩ := g_if hr
  refine va_iast hx hb hK hP hD hS k 0 (by rw [wZ_get hk, cZ_0 hs]; rfl) rfl (okI_in h1) dg (fun H locs hP hD hS => ?_)
  have e : (jad (p, l, e, R, s, m, args, below, meth, c, D, A, ad, cA, rs, Q) k, (Sum.inl (cA 0, z, Sum.inl (upd (X k) i.toNatClampNeg v)) : va_E)) = (ad k, cZ L ad cA (pX X k (upd (X k) i.toNatClampNeg v) k) k) := by
    rw [pX_self, cZ_0 hs]; rfl
  rw [e, wZ_set hk (fun q h => pX_ne X _ h)] at hP hD
  exact kk h2 H locs ls hP hD hS hl
theorem j_bastore (K : jOk n cc own ret d κ) {k z : Nat} {i v : Int32} {a : Option β} (hs : L.2.1 k = (1, z)) (hk : k < L.1) (dg : decode cc pc = .ok (.bastore, 1)) (hr : (if okI i z = true then a else none) = some r) (kk : a = some r → J L n κ (pX X k (upd (X k) i.toNatClampNeg (vp_nar .boolean v))) (pc + 1) lv st) : J L n κ X pc lv (.int v :: .int i :: .ref (jad κ k) :: st) := by
  obtain ⟨p, l, e, R, s, m, args, below, meth, c, D, A, ad, cA, rs, Q⟩ := κ
  obtain ⟨hx, hb, hml, hown, hts, hr0, hlk, hK, hA, hfr, hlo, hN⟩ := K
  intro H locs ls hP hD hS hl
  obtain ⟨h1, h2⟩ := g_if hr
  refine va_zast hx hb hK hP hD hS k 1 (by rw [wZ_get hk, cZ_1 hs]; rfl) rfl (okI_in h1) dg (fun H locs hP hD hS => ?_)
  have e : (jad (p, l, e, R, s, m, args, below, meth, c, D, A, ad, cA, rs, Q) k, (Sum.inl (cA 1, z, Sum.inl (upd (X k) i.toNatClampNeg (vp_nar .boolean v))) : va_E)) = (ad k, cZ L ad cA (pX X k (upd (X k) i.toNatClampNeg (vp_nar .boolean v)) k) k) := by
    rw [pX_self, cZ_1 hs]; rfl
  rw [e, wZ_set hk (fun q h => pX_ne X _ h)] at hP hD
  exact kk h2 H locs ls hP hD hS hl
theorem j_castore (K : jOk n cc own ret d κ) {k z : Nat} {i v : Int32} {a : Option β} (hs : L.2.1 k = (2, z)) (hk : k < L.1) (dg : decode cc pc = .ok (.castore, 1)) (hr : (if okI i z = true then a else none) = some r) (kk : a = some r → J L n κ (pX X k (upd (X k) i.toNatClampNeg (vp_nar .char v))) (pc + 1) lv st) : J L n κ X pc lv (.int v :: .int i :: .ref (jad κ k) :: st) := by
  obtain ⟨p, l, e, R, s, m, args, below, meth, c, D, A, ad, cA, rs, Q⟩ := κ
  obtain ⟨hx, hb, hml, hown, hts, hr0, hlk, hK, hA, hfr, hlo, hN⟩ := K
  intro H locs ls hP hD hS hl
  obtain ⟨h1, h2⟩ := g_if hr
  refine va_cast hx hb hK hP hD hS k 2 (by rw [wZ_get hk, cZ_2 hs]; rfl) rfl (okI_in h1) dg (fun H locs hP hD hS => ?_)
  have e : (jad (p, l, e, R, s, m, args, below, meth, c, D, A, ad, cA, rs, Q) k, (Sum.inl (cA 2, z, Sum.inl (upd (X k) i.toNatClampNeg (vp_nar .char v))) : va_E)) = (ad k, cZ L ad cA (pX X k (upd (X k) i.toNatClampNeg (vp_nar .char v)) k) k) := by
    rw [pX_self, cZ_2 hs]; rfl
  rw [e, wZ_set hk (fun q h => pX_ne X _ h)] at hP hD
  exact kk h2 H locs ls hP hD hS hl
theorem j_aaload3 (K : jOk n cc own ret d κ) {k z : Nat} {i : Int32} {a : Option β} (hs : L.2.1 k = (3, z)) (hk : k < L.1) (dg : decode cc pc = .ok (.aaload, 1)) (hr : (if okI i z = true then a else none) = some r) (kk : a = some r → J L n κ X (pc + 1) lv (.ref (jad κ (X k i.toNatClampNeg).toNatClampNeg) :: st)) : J L n κ X pc lv (.int i :: .ref (jad κ k) :: st) := by
  obtain ⟨p, l, e, R, s, m, args, below, meth, c, D, A, ad, cA, rs, Q⟩ := κ
  obtain ⟨hx, hb, hml, hown, hts, hr0, hlk, hK, hA, hfr, hlo, hN⟩ := K
  intro H locs ls hP hD hS hl
  obtain ⟨h1, h2⟩ := g_if hr
  exact va_aldq (f := fun j => some (ad (X k j).toNatClampNeg)) hx hb hK hP k 3 (by rw [wZ_get hk, cZ_3 hs]; rfl) rfl (okI_in h1) dg (kk h2 H locs ls hP hD hS hl)
theorem j_aastore3 (K : jOk n cc own ret d κ) {k z u ci y : Nat} {i : Int32} {a : Option β} (hs : L.2.1 k = (3, z)) (hk : k < L.1) (hu : L.2.1 u = (10 + ci, y)) (hku : u < L.1) (hc : ci < 90) (hcl : ∃ q : vw_C, vwCl[ci]? = some q ∧ q.1 = "SearchKeeper$Root") (h31 : u < 2 ^ 31) (dg : decode cc pc = .ok (.aastore, 1)) (hr : (if okI i z = true then a else none) = some r) (kk : a = some r → J L n κ (pX X k (upd (X k) i.toNatClampNeg (nI u))) (pc + 1) lv st) : J L n κ X pc lv (.ref (jad κ u) :: .int i :: .ref (jad κ k) :: st) := by
  obtain ⟨p, l, e, R, s, m, args, below, meth, c, D, A, ad, cA, rs, Q⟩ := κ
  obtain ⟨hx, hb, hml, hown, hts, hr0, hlk, hK, hA, hfr, hlo, hN⟩ := K
  intro H locs ls hP hD hS hl
  obtain ⟨h1, h2⟩ := g_if hr
  obtain ⟨⟨C, T, N⟩, g1, g2⟩ := hcl
  refine va_astq hx hb hK hP hD hS k 3 u ci (by rw [wZ_get hk, cZ_3 hs]; rfl) (by rw [show (C, T, N).1 = "SearchKeeper$Root" from g2]; rfl) (by rw [wZ_get hku, cZ_ob hu hc]; rfl) g1 (okI_in h1) dg (fun H locs hP hD hS => ?_)
  have e : (jad (p, l, e, R, s, m, args, below, meth, c, D, A, ad, cA, rs, Q) k, (Sum.inl (cA 3, z, Sum.inr (Sum.inr (Sum.inr (Sum.inr (va_up (fun j => some (ad (X k j).toNatClampNeg)) i.toNatClampNeg (some (jad (p, l, e, R, s, m, args, below, meth, c, D, A, ad, cA, rs, Q) u))))))) : va_E)) = (ad k, cZ L ad cA (pX X k (upd (X k) i.toNatClampNeg (nI u)) k) k) := by
    rw [pX_self, cZ_3 hs]
    refine congrArg (fun f => (ad k, (Sum.inl (cA 3, z, Sum.inr (Sum.inr (Sum.inr (Sum.inr f)))) : va_E))) (funext fun j => ?_)
    by_cases hj : j = i.toNatClampNeg
    · rw [hj, va_up_self, pk_us, nI_clamp h31]; rfl
    · rw [va_up_ne _ _ hj, pk_un hj]
  rw [e, wZ_set hk (fun q h => pX_ne X _ h)] at hP hD
  exact kk h2 H locs ls hP hD hS hl
theorem j_aaload4 (K : jOk n cc own ret d κ) {k z b : Nat} {i : Int32} {a : Option β} (hs : L.2.1 k = (100 + b, z)) (hk : k < L.1) (dg : decode cc pc = .ok (.aaload, 1)) (hr : (if okI i z = true then a else none) = some r) (kk : a = some r → J L n κ X (pc + 1) lv (.ref (jad κ (b + i.toNatClampNeg)) :: st)) : J L n κ X pc lv (.int i :: .ref (jad κ k) :: st) := by
  obtain ⟨p, l, e, R, s, m, args, below, meth, c, D, A, ad, cA, rs, Q⟩ := κ
  obtain ⟨hx, hb, hml, hown, hts, hr0, hlk, hK, hA, hfr, hlo, hN⟩ := K
  intro H locs ls hP hD hS hl
  obtain ⟨h1, h2⟩ := g_if hr
  have h8 := hP k _ (show (wZ L ad cA X ++ rs)[k]? = some (ad k, .inl (cA 4, (z, .inr (.inr (.inr (.inr (fun j => if j < z then some (ad (b + j)) else none))))))) by rw [wZ_get hk, cZ_ou hs])
  have h9 := W.aald (p := p) (l := l) (e := e) (R := R) (s := s) (m := m) (args := args) (below := below) (meth := meth) (c := c) (locs := locs) (cells := 0) (slots := 0) (Q := Q) (v := .ref (ad (b + i.toNatClampNeg))) (ty := .array .int) hx hb h8 ((hK.2 4 _ rfl).1 z (fun j => va_rf (if j < z then some (ad (b + j)) else none))) rfl (fun q => by cases q) (j := i) (by show ¬ (i < 0 ∨ (arrV _ _ _).slots.size ≤ _); rw [arrV_size]; exact okI_in h1) (by show (arrV _ _ _).slots[_]? = _; rw [arrV_read _ _ (okI_lt h1)]; simp only [if_pos (okI_lt h1)]; rfl) (g := F0 m pc ls (.int i :: .ref (ad k) :: st)) rfl rfl dg (kk h2 H locs ls hP hD hS hl)
  exact h9
theorem j_alen0 (K : jOk n cc own ret d κ) {k z : Nat} {v : Int32} (hs : L.2.1 k = (0, z)) (hk : k < L.1) (hv : Int32.ofNat z = v) (dg : decode cc pc = .ok (.arraylength, 1)) (kk : J L n κ X (pc + 1) lv (.int v :: st)) : J L n κ X pc lv (.ref (jad κ k) :: st) := by
  obtain ⟨p, l, e, R, s, m, args, below, meth, c, D, A, ad, cA, rs, Q⟩ := κ
  obtain ⟨hx, hb, hml, hown, hts, hr0, hlk, hK, hA, hfr, hlo, hN⟩ := K
  intro H locs ls hP hD hS hl
  exact va_alen hx hb hK hP k 0 (by rw [wZ_get hk, cZ_0 hs]; rfl) rfl (by exact hv) dg (kk H locs ls hP hD hS hl)
theorem jFin_ret {x : JE} {thr : Bool} {p : Program} {l : Launch} {e : Env} {R : Room} {s : State} {m : MethodId} {args : Array Value} {below : List Frame} {meth : Method} {c : Code} {D : va_G} {A : Nat → Prop} {ad : Nat → Nat} {cA : Nat → ClassId} {rs : va_W} {Q : State → Prop} {H : Heap} {locs : List Loc} {g : JFrame}
    (F : jFin L thr x (p, l, e, R, s, m, args, below, meth, c, D, A, ad, cA, rs, Q)) (k : ∀ kc ks, W p l e R s m args below meth c H locs kc ks (MQ below (jQc L D ad cA rs A x) args s kc ks A) g) : W p l e R s m args below meth c H locs 0 0 Q g := by
  unfold jFin at F
  cases thr with
  | false =>
    have F : Q = _ := F
    rw [F]; exact k 0 0
  | true =>
    have F : Q = _ ∧ _ := F
    rw [F.1]
    exact W.widen (k := 1) (n := 6) (Nat.zero_le _) (Nat.zero_le _) (vx_ret (k 1 6))
theorem j_ireturn (K : jOk n cc own ret d κ) {thr : Bool} {out : β → JE} {ρ : β} {v : Int32} (dg : decode cc pc = .ok (.ireturn, 1)) (hi : ret = some .int) (F : jFin L thr (out r) κ) (hr : some ρ = some r) (ho : out ρ = (none, some (.int v), X)) : J L n κ X pc lv [.int v] := by
  obtain ⟨p, l, e, R, s, m, args, below, meth, c, D, A, ad, cA, rs, Q⟩ := κ
  obtain ⟨hx, hb, hml, hown, hts, hr0, hlk, hK, hA, hfr, hlo, hN⟩ := K
  intro H locs ls hP hD hS hl
  cases hr
  rw [ho] at F
  exact jFin_ret F (fun kc ks => W.iret hx hb (hr0.trans hi) (fun t ht hW => ⟨⟨rfl, rfl, by rw [ht]; exact hP⟩, hS.F ht⟩) hS.2.2 dg hlk)
theorem j_zreturn (K : jOk n cc own ret d κ) {thr : Bool} {out : β → JE} {ρ : β} {v : Int32} (dg : decode cc pc = .ok (.ireturn, 1)) (hi : ret = some .boolean) (hz : okB v = true) (F : jFin L thr (out r) κ) (hr : some ρ = some r) (ho : out ρ = (none, some (.int v), X)) : J L n κ X pc lv [.int v] := by
  obtain ⟨p, l, e, R, s, m, args, below, meth, c, D, A, ad, cA, rs, Q⟩ := κ
  obtain ⟨hx, hb, hml, hown, hts, hr0, hlk, hK, hA, hfr, hlo, hN⟩ := K
  intro H locs ls hP hD hS hl
  cases hr
  rw [ho] at F
  exact jFin_ret F (fun kc ks => W.zret hx hb (hr0.trans hi) (okB_n hz) (fun t ht hW => ⟨⟨rfl, rfl, by rw [ht]; exact hP⟩, hS.F ht⟩) hS.2.2 dg hlk)
theorem j_creturn (K : jOk n cc own ret d κ) {thr : Bool} {out : β → JE} {ρ : β} {v : Int32} (dg : decode cc pc = .ok (.ireturn, 1)) (hi : ret = some .char) (hz : vp_nar .char v = v) (F : jFin L thr (out r) κ) (hr : some ρ = some r) (ho : out ρ = (none, some (.int v), X)) : J L n κ X pc lv [.int v] := by
  obtain ⟨p, l, e, R, s, m, args, below, meth, c, D, A, ad, cA, rs, Q⟩ := κ
  obtain ⟨hx, hb, hml, hown, hts, hr0, hlk, hK, hA, hfr, hlo, hN⟩ := K
  intro H locs ls hP hD hS hl
  cases hr
  rw [ho] at F
  exact jFin_ret F (fun kc ks => W.zret hx hb (hr0.trans hi) (by have h9 : narrow .char (.int v) = .int (vp_nar .char v) := rfl; rw [h9, hz]) (fun t ht hW => ⟨⟨rfl, rfl, by rw [ht]; exact hP⟩, hS.F ht⟩) hS.2.2 dg hlk)
theorem j_return (K : jOk n cc own ret d κ) {thr : Bool} {out : β → JE} {ρ : β} (dg : decode cc pc = .ok (.return_, 1)) (hi : ret = none) (F : jFin L thr (out r) κ) (hr : some ρ = some r) (ho : out ρ = (none, none, X)) : J L n κ X pc lv [] := by
  obtain ⟨p, l, e, R, s, m, args, below, meth, c, D, A, ad, cA, rs, Q⟩ := κ
  obtain ⟨hx, hb, hml, hown, hts, hr0, hlk, hK, hA, hfr, hlo, hN⟩ := K
  intro H locs ls hP hD hS hl
  cases hr
  rw [ho] at F
  exact jFin_ret F (fun kc ks => W.vret hx hb (hr0.trans hi) (fun t ht hW => ⟨⟨rfl, rfl, by rw [ht]; exact hP⟩, hS.F ht⟩) hS.2.2 dg hlk)
theorem j_areturn (K : jOk n cc own ret d κ) {thr : Bool} {out : β → JE} {ρ : β} {q : Nat} {rt : FieldType} (dg : decode cc pc = .ok (.areturn, 1)) (hi : ret = some rt) (hrt : (∃ n, rt = .object n) ∨ ∃ t, rt = .array t) (F : jFin L thr (out r) κ) (hr : some ρ = some r) (ho : out ρ = (none, some (.ref (jad κ q)), X)) : J L n κ X pc lv [.ref (jad κ q)] := by
  obtain ⟨p, l, e, R, s, m, args, below, meth, c, D, A, ad, cA, rs, Q⟩ := κ
  obtain ⟨hx, hb, hml, hown, hts, hr0, hlk, hK, hA, hfr, hlo, hN⟩ := K
  intro H locs ls hP hD hS hl
  cases hr
  rw [ho] at F
  exact jFin_ret F (fun kc ks => W.aret hx hb (hr0.trans hi) hrt (Or.inr ⟨_, rfl⟩) (fun t ht hW => ⟨⟨rfl, rfl, by rw [ht]; exact hP⟩, hS.F ht⟩) hS.2.2 dg hlk)
theorem j_areturnN (K : jOk n cc own ret d κ) {thr : Bool} {out : β → JE} {ρ : β} {rt : FieldType} (dg : decode cc pc = .ok (.areturn, 1)) (hi : ret = some rt) (hrt : (∃ n, rt = .object n) ∨ ∃ t, rt = .array t) (F : jFin L thr (out r) κ) (hr : some ρ = some r) (ho : out ρ = (none, some .null, X)) : J L n κ X pc lv [.null] := by
  obtain ⟨p, l, e, R, s, m, args, below, meth, c, D, A, ad, cA, rs, Q⟩ := κ
  obtain ⟨hx, hb, hml, hown, hts, hr0, hlk, hK, hA, hfr, hlo, hN⟩ := K
  intro H locs ls hP hD hS hl
  cases hr
  rw [ho] at F
  exact jFin_ret F (fun kc ks => W.aret hx hb (hr0.trans hi) hrt (Or.inl rfl) (fun t ht hW => ⟨⟨rfl, rfl, by rw [ht]; exact hP⟩, hS.F ht⟩) hS.2.2 dg hlk)
theorem j_max (K : jOk n cc own ret d κ) {x y : Int32} {idx : Nat} (ml : Cond.methodLink own idx Lib.Math.max.name ∈ gTbl ∧ Cond.static Lib.Math.max.name ∈ gTbl ∧ Cond.initialized "java/lang/Math" ∈ gTbl ∧ Cond.code Lib.Math.max.name Lib.Math.max.code 2 (some .int) ∈ gTbl) (hd : 1 ≤ d) (hst : (st.map fun v => v.category).sum ≤ 8) (dg : decode cc pc = .ok (.invokestatic idx, 3)) (kk : J L n κ X (pc + 3) lv (.int (if x < y then y else x) :: st)) : J L n κ X pc lv (.int y :: .int x :: st) := by
  obtain ⟨p, l, e, R, s, m, args, below, meth, c, D, A, ad, cA, rs, Q⟩ := κ
  obtain ⟨hx, hb, hml, hown, hts, hr0, hlk, hK, hA, hfr, hlo, hN⟩ := K
  intro H locs ls hP hD hS hl
  exact va_mmax hx hb (hml.trans hl.1.symm) hown (hts _ ml.1) (hts _ ml.2.1) (hts _ ml.2.2.1) (hts _ ml.2.2.2) (by omega) (by omega) (Nat.zero_le _) (Nat.zero_le _) dg (kk H locs ls hP hD hS hl)
theorem j_min (K : jOk n cc own ret d κ) {x y : Int32} {idx : Nat} (ml : Cond.methodLink own idx Lib.Math.min.name ∈ gTbl ∧ Cond.static Lib.Math.min.name ∈ gTbl ∧ Cond.initialized "java/lang/Math" ∈ gTbl ∧ Cond.code Lib.Math.min.name Lib.Math.min.code 2 (some .int) ∈ gTbl) (hd : 1 ≤ d) (hst : (st.map fun v => v.category).sum ≤ 8) (dg : decode cc pc = .ok (.invokestatic idx, 3)) (kk : J L n κ X (pc + 3) lv (.int (if y < x then y else x) :: st)) : J L n κ X pc lv (.int y :: .int x :: st) := by
  obtain ⟨p, l, e, R, s, m, args, below, meth, c, D, A, ad, cA, rs, Q⟩ := κ
  obtain ⟨hx, hb, hml, hown, hts, hr0, hlk, hK, hA, hfr, hlo, hN⟩ := K
  intro H locs ls hP hD hS hl
  exact va_mmin hx hb (hml.trans hl.1.symm) hown (hts _ ml.1) (hts _ ml.2.1) (hts _ ml.2.2.1) (hts _ ml.2.2.2) (by omega) (by omega) (Nat.zero_le _) (Nat.zero_le _) dg (kk H locs ls hP hD hS hl)
theorem j_abs (K : jOk n cc own ret d κ) {x : Int32} {idx : Nat} (ml : Cond.methodLink own idx Lib.Math.abs.name ∈ gTbl ∧ Cond.static Lib.Math.abs.name ∈ gTbl ∧ Cond.initialized "java/lang/Math" ∈ gTbl ∧ Cond.code Lib.Math.abs.name Lib.Math.abs.code 1 (some .int) ∈ gTbl) (hd : 1 ≤ d) (hst : (st.map fun v => v.category).sum ≤ 8) (dg : decode cc pc = .ok (.invokestatic idx, 3)) (kk : J L n κ X (pc + 3) lv (.int (if 0 ≤ x then x else 0 - x) :: st)) : J L n κ X pc lv (.int x :: st) := by
  obtain ⟨p, l, e, R, s, m, args, below, meth, c, D, A, ad, cA, rs, Q⟩ := κ
  obtain ⟨hx, hb, hml, hown, hts, hr0, hlk, hK, hA, hfr, hlo, hN⟩ := K
  intro H locs ls hP hD hS hl
  exact va_mabs hx hb (hml.trans hl.1.symm) hown (hts _ ml.1) (hts _ ml.2.1) (hts _ ml.2.2.1) (hts _ ml.2.2.2) (by omega) (by omega) (Nat.zero_le _) (Nat.zero_le _) dg (kk H locs ls hP hD hS hl)
def nX {α : Type} (X : JX) (f : JX → α) : α := f X
def nV {α : Type} (v : Int32) (f : Int32 → α) : α := f v
def nN {α : Type} (q : Nat) (f : Nat → α) : α := f q
theorem j_istoreV_n (K : jOk n cc own ret d κ) {i : Fin 4} {x : Int32} {a : Int32 → Option β} (dg : decode cc pc = .ok (.istore_n i, 1)) (hn : (i : Nat) < n) (hr : nV x a = some r) (k : ∀ v, a v = some r → J L n κ X (pc + 1) (jst (i : Nat) (.int v) lv) st) : J L n κ X pc lv (.int x :: st) := by
  obtain ⟨p, l, e, R, s, m, args, below, meth, c, D, A, ad, cA, rs, Q⟩ := κ
  obtain ⟨hx, hb, hml, hown, hts, hr0, hlk, hK, hA, hfr, hlo, hN⟩ := K
  intro H locs ls hP hD hS hl
  exact lv_istore_n hx hb dg rfl hl hn rfl (fun ls hl => k x hr H locs ls hP hD hS hl)
theorem j_istoreV (K : jOk n cc own ret d κ) {i : Nat} {x : Int32} {a : Int32 → Option β} (dg : decode cc pc = .ok (.istore i, 2)) (hn : i < n) (hr : nV x a = some r) (k : ∀ v, a v = some r → J L n κ X (pc + 2) (jst i (.int v) lv) st) : J L n κ X pc lv (.int x :: st) := by
  obtain ⟨p, l, e, R, s, m, args, below, meth, c, D, A, ad, cA, rs, Q⟩ := κ
  obtain ⟨hx, hb, hml, hown, hts, hr0, hlk, hK, hA, hfr, hlo, hN⟩ := K
  intro H locs ls hP hD hS hl
  exact lv_istore hx hb dg hl hn rfl (fun ls hl => k x hr H locs ls hP hD hS hl)
theorem j_iincV (K : jOk n cc own ret d κ) {i : Nat} {z : Int} {x v : Int32} {a : Int32 → Option β} (dg : decode cc pc = .ok (.iinc i z, 3)) (q : Nat) (h : lv[q]? = some (i, .int x)) (hz : Int32.ofInt z = v) (hn : i < n) (hr : nV (x + v) a = some r) (k : ∀ v, a v = some r → J L n κ X (pc + 3) (jst i (.int v) lv) st) : J L n κ X pc lv st := by
  obtain ⟨p, l, e, R, s, m, args, below, meth, c, D, A, ad, cA, rs, Q⟩ := κ
  obtain ⟨hx, hb, hml, hown, hts, hr0, hlk, hK, hA, hfr, hlo, hN⟩ := K
  intro H locs ls hP hD hS hl
  subst hz; exact lv_iinc hx hb dg hl h rfl hn rfl (fun ls hl => k _ hr H locs ls hP hD hS hl)
theorem j_iastoreV (K : jOk n cc own ret d κ) {k z : Nat} {i v : Int32} {a : JX → Option β} (hs : L.2.1 k = (0, z)) (hk : k < L.1) (dg : decode cc pc = .ok (.iastore, 1)) (hr : (if okI i z = true then nX (pX X k (upd (X k) i.toNatClampNeg v)) a else none) = some r) (kk : ∀ X, a X = some r → J L n κ X (pc + 1) lv st) : J L n κ X pc lv (.int v :: .int i :: .ref (jad κ k) :: st) := j_iastore K hs hk dg hr (fun h => kk _ h)
theorem j_bastoreV (K : jOk n cc own ret d κ) {k z : Nat} {i v : Int32} {a : JX → Option β} (hs : L.2.1 k = (1, z)) (hk : k < L.1) (dg : decode cc pc = .ok (.bastore, 1)) (hr : (if okI i z = true then nX (pX X k (upd (X k) i.toNatClampNeg (vp_nar .boolean v))) a else none) = some r) (kk : ∀ X, a X = some r → J L n κ X (pc + 1) lv st) : J L n κ X pc lv (.int v :: .int i :: .ref (jad κ k) :: st) := j_bastore K hs hk dg hr (fun h => kk _ h)
theorem j_castoreV (K : jOk n cc own ret d κ) {k z : Nat} {i v : Int32} {a : JX → Option β} (hs : L.2.1 k = (2, z)) (hk : k < L.1) (dg : decode cc pc = .ok (.castore, 1)) (hr : (if okI i z = true then nX (pX X k (upd (X k) i.toNatClampNeg (vp_nar .char v))) a else none) = some r) (kk : ∀ X, a X = some r → J L n κ X (pc + 1) lv st) : J L n κ X pc lv (.int v :: .int i :: .ref (jad κ k) :: st) := j_castore K hs hk dg hr (fun h => kk _ h)
theorem j_aastore3V (K : jOk n cc own ret d κ) {k z u ci y : Nat} {i : Int32} {a : JX → Option β} (hs : L.2.1 k = (3, z)) (hk : k < L.1) (hu : L.2.1 u = (10 + ci, y)) (hku : u < L.1) (hc : ci < 90) (hcl : ∃ q : vw_C, vwCl[ci]? = some q ∧ q.1 = "SearchKeeper$Root") (h31 : u < 2 ^ 31) (dg : decode cc pc = .ok (.aastore, 1)) (hr : (if okI i z = true then nX (pX X k (upd (X k) i.toNatClampNeg (nI u))) a else none) = some r) (kk : ∀ X, a X = some r → J L n κ X (pc + 1) lv st) : J L n κ X pc lv (.ref (jad κ u) :: .int i :: .ref (jad κ k) :: st) := j_aastore3 K hs hk hu hku hc hcl h31 dg hr (fun h => kk _ h)
theorem j_aaload3V (K : jOk n cc own ret d κ) {k z : Nat} {i : Int32} {g : Nat → Bool} {a : Nat → Option β} (hs : L.2.1 k = (3, z)) (hk : k < L.1) (dg : decode cc pc = .ok (.aaload, 1)) (hr : (if okI i z = true then nN (X k i.toNatClampNeg).toNatClampNeg (fun q => if g q = true then a q else none) else none) = some r) (kk : ∀ q, g q = true → a q = some r → J L n κ X (pc + 1) lv (.ref (jad κ q) :: st)) : J L n κ X pc lv (.int i :: .ref (jad κ k) :: st) := j_aaload3 K hs hk dg hr (fun h => kk _ (g_if h).1 (g_if h).2)
theorem j_aaload4V (K : jOk n cc own ret d κ) {k z b : Nat} {i : Int32} {g : Nat → Bool} {a : Nat → Option β} (hs : L.2.1 k = (100 + b, z)) (hk : k < L.1) (dg : decode cc pc = .ok (.aaload, 1)) (hr : (if okI i z = true then nN (b + i.toNatClampNeg) (fun q => if g q = true then a q else none) else none) = some r) (kk : ∀ q, g q = true → a q = some r → J L n κ X (pc + 1) lv (.ref (jad κ q) :: st)) : J L n κ X pc lv (.int i :: .ref (jad κ k) :: st) := j_aaload4 K hs hk dg hr (fun h => kk _ (g_if h).1 (g_if h).2)
theorem j_putiV (K : jOk n cc own ret d κ) {idx ci j k z : Nat} {v : Int32} {a : JX → Option β} (fl : FPk own idx ci j .int) (hs : L.2.1 k = (10 + ci, z)) (hk : k < L.1) (hc : ci < 90) (hl9 : ∀ f, j < (L.2.2 (jad κ) f k ci).length) (hv : ∀ f, (L.2.2 (jad κ) f k ci).set j (.int v) = L.2.2 (jad κ) (upd f j v) k ci) (dg : decode cc pc = .ok (.putfield idx, 3)) (hr : nX (pX X k (upd (X k) j v)) a = some r) (kk : ∀ X, a X = some r → J L n κ X (pc + 3) lv st) : J L n κ X pc lv (.int v :: .ref (jad κ k) :: st) := j_puti K fl hs hk hc hl9 hv dg (kk _ hr)
theorem j_putzV (K : jOk n cc own ret d κ) {idx ci j k z : Nat} {v : Int32} {a : JX → Option β} (fl : FPk own idx ci j .boolean) (hs : L.2.1 k = (10 + ci, z)) (hk : k < L.1) (hc : ci < 90) (hl9 : ∀ f, j < (L.2.2 (jad κ) f k ci).length) (hv : ∀ f, (L.2.2 (jad κ) f k ci).set j (.int v) = L.2.2 (jad κ) (upd f j v) k ci) (dg : decode cc pc = .ok (.putfield idx, 3)) (hr : (if okB v = true then nX (pX X k (upd (X k) j v)) a else none) = some r) (kk : ∀ X, a X = some r → J L n κ X (pc + 3) lv st) : J L n κ X pc lv (.int v :: .ref (jad κ k) :: st) := j_putz K fl hs hk hc hl9 hv (g_if hr).1 dg (kk _ (g_if hr).2)
theorem j_putiNV (K : jOk n cc own ret d κ) {idx ci j k z : Nat} {v : Int32} {a : JX → Option β} (fl : FPn own idx ci j .int) (hs : L.2.1 k = (10 + ci, z)) (hk : k < L.1) (hc : ci < 90) (hl9 : ∀ f, j < (L.2.2 (jad κ) f k ci).length) (hv : ∀ f, (L.2.2 (jad κ) f k ci).set j (.int v) = L.2.2 (jad κ) (upd f j v) k ci) (dg : decode cc pc = .ok (.putfield idx, 3)) (hr : nX (pX X k (upd (X k) j v)) a = some r) (kk : ∀ X, a X = some r → J L n κ X (pc + 3) lv st) : J L n κ X pc lv (.int v :: .ref (jad κ k) :: st) := j_putiN K fl hs hk hc hl9 hv dg (kk _ hr)
theorem j_putzNV (K : jOk n cc own ret d κ) {idx ci j k z : Nat} {v : Int32} {a : JX → Option β} (fl : FPn own idx ci j .boolean) (hs : L.2.1 k = (10 + ci, z)) (hk : k < L.1) (hc : ci < 90) (hl9 : ∀ f, j < (L.2.2 (jad κ) f k ci).length) (hv : ∀ f, (L.2.2 (jad κ) f k ci).set j (.int v) = L.2.2 (jad κ) (upd f j v) k ci) (dg : decode cc pc = .ok (.putfield idx, 3)) (hr : (if okB v = true then nX (pX X k (upd (X k) j v)) a else none) = some r) (kk : ∀ X, a X = some r → J L n κ X (pc + 3) lv st) : J L n κ X pc lv (.int v :: .ref (jad κ k) :: st) := j_putzN K fl hs hk hc hl9 hv (g_if hr).1 dg (kk _ (g_if hr).2)
end JR
def loop1 {A1 B : Type} (f : (A1 → Option B) → A1 → Option B) : Nat → A1 → Option B
  | 0 => fun _ => none
  | n + 1 => f (loop1 f n)
theorem j_loop1 {A1 B : Type} {r : B} {f : (A1 → Option B) → A1 → Option B} {P : A1 → Prop} (h : ∀ rec : A1 → Option B, (∀ (a1 : A1), rec a1 = some r → P a1) → ∀ (a1 : A1), f rec a1 = some r → P a1) : ∀ (n : Nat) (a1 : A1), loop1 f n a1 = some r → P a1
  | 0, _, hr => nomatch hr
  | n + 1, a1, hr => h (loop1 f n) (j_loop1 h n) a1 hr
def loop2 {A1 A2 B : Type} (f : (A1 → A2 → Option B) → A1 → A2 → Option B) : Nat → A1 → A2 → Option B
  | 0 => fun _ _ => none
  | n + 1 => f (loop2 f n)
theorem j_loop2 {A1 A2 B : Type} {r : B} {f : (A1 → A2 → Option B) → A1 → A2 → Option B} {P : A1 → A2 → Prop} (h : ∀ rec : A1 → A2 → Option B, (∀ (a1 : A1) (a2 : A2), rec a1 a2 = some r → P a1 a2) → ∀ (a1 : A1) (a2 : A2), f rec a1 a2 = some r → P a1 a2) : ∀ (n : Nat) (a1 : A1) (a2 : A2), loop2 f n a1 a2 = some r → P a1 a2
  | 0, _, _, hr => nomatch hr
  | n + 1, a1, a2, hr => h (loop2 f n) (j_loop2 h n) a1 a2 hr
def loop3 {A1 A2 A3 B : Type} (f : (A1 → A2 → A3 → Option B) → A1 → A2 → A3 → Option B) : Nat → A1 → A2 → A3 → Option B
  | 0 => fun _ _ _ => none
  | n + 1 => f (loop3 f n)
theorem j_loop3 {A1 A2 A3 B : Type} {r : B} {f : (A1 → A2 → A3 → Option B) → A1 → A2 → A3 → Option B} {P : A1 → A2 → A3 → Prop} (h : ∀ rec : A1 → A2 → A3 → Option B, (∀ (a1 : A1) (a2 : A2) (a3 : A3), rec a1 a2 a3 = some r → P a1 a2 a3) → ∀ (a1 : A1) (a2 : A2) (a3 : A3), f rec a1 a2 a3 = some r → P a1 a2 a3) : ∀ (n : Nat) (a1 : A1) (a2 : A2) (a3 : A3), loop3 f n a1 a2 a3 = some r → P a1 a2 a3
  | 0, _, _, _, hr => nomatch hr
  | n + 1, a1, a2, a3, hr => h (loop3 f n) (j_loop3 h n) a1 a2 a3 hr
def loop4 {A1 A2 A3 A4 B : Type} (f : (A1 → A2 → A3 → A4 → Option B) → A1 → A2 → A3 → A4 → Option B) : Nat → A1 → A2 → A3 → A4 → Option B
  | 0 => fun _ _ _ _ => none
  | n + 1 => f (loop4 f n)
theorem j_loop4 {A1 A2 A3 A4 B : Type} {r : B} {f : (A1 → A2 → A3 → A4 → Option B) → A1 → A2 → A3 → A4 → Option B} {P : A1 → A2 → A3 → A4 → Prop} (h : ∀ rec : A1 → A2 → A3 → A4 → Option B, (∀ (a1 : A1) (a2 : A2) (a3 : A3) (a4 : A4), rec a1 a2 a3 a4 = some r → P a1 a2 a3 a4) → ∀ (a1 : A1) (a2 : A2) (a3 : A3) (a4 : A4), f rec a1 a2 a3 a4 = some r → P a1 a2 a3 a4) : ∀ (n : Nat) (a1 : A1) (a2 : A2) (a3 : A3) (a4 : A4), loop4 f n a1 a2 a3 a4 = some r → P a1 a2 a3 a4
  | 0, _, _, _, _, hr => nomatch hr
  | n + 1, a1, a2, a3, a4, hr => h (loop4 f n) (j_loop4 h n) a1 a2 a3 a4 hr
def loop5 {A1 A2 A3 A4 A5 B : Type} (f : (A1 → A2 → A3 → A4 → A5 → Option B) → A1 → A2 → A3 → A4 → A5 → Option B) : Nat → A1 → A2 → A3 → A4 → A5 → Option B
  | 0 => fun _ _ _ _ _ => none
  | n + 1 => f (loop5 f n)
theorem j_loop5 {A1 A2 A3 A4 A5 B : Type} {r : B} {f : (A1 → A2 → A3 → A4 → A5 → Option B) → A1 → A2 → A3 → A4 → A5 → Option B} {P : A1 → A2 → A3 → A4 → A5 → Prop} (h : ∀ rec : A1 → A2 → A3 → A4 → A5 → Option B, (∀ (a1 : A1) (a2 : A2) (a3 : A3) (a4 : A4) (a5 : A5), rec a1 a2 a3 a4 a5 = some r → P a1 a2 a3 a4 a5) → ∀ (a1 : A1) (a2 : A2) (a3 : A3) (a4 : A4) (a5 : A5), f rec a1 a2 a3 a4 a5 = some r → P a1 a2 a3 a4 a5) : ∀ (n : Nat) (a1 : A1) (a2 : A2) (a3 : A3) (a4 : A4) (a5 : A5), loop5 f n a1 a2 a3 a4 a5 = some r → P a1 a2 a3 a4 a5
  | 0, _, _, _, _, _, hr => nomatch hr
  | n + 1, a1, a2, a3, a4, a5, hr => h (loop5 f n) (j_loop5 h n) a1 a2 a3 a4 a5 hr
def loop6 {A1 A2 A3 A4 A5 A6 B : Type} (f : (A1 → A2 → A3 → A4 → A5 → A6 → Option B) → A1 → A2 → A3 → A4 → A5 → A6 → Option B) : Nat → A1 → A2 → A3 → A4 → A5 → A6 → Option B
  | 0 => fun _ _ _ _ _ _ => none
  | n + 1 => f (loop6 f n)
theorem j_loop6 {A1 A2 A3 A4 A5 A6 B : Type} {r : B} {f : (A1 → A2 → A3 → A4 → A5 → A6 → Option B) → A1 → A2 → A3 → A4 → A5 → A6 → Option B} {P : A1 → A2 → A3 → A4 → A5 → A6 → Prop} (h : ∀ rec : A1 → A2 → A3 → A4 → A5 → A6 → Option B, (∀ (a1 : A1) (a2 : A2) (a3 : A3) (a4 : A4) (a5 : A5) (a6 : A6), rec a1 a2 a3 a4 a5 a6 = some r → P a1 a2 a3 a4 a5 a6) → ∀ (a1 : A1) (a2 : A2) (a3 : A3) (a4 : A4) (a5 : A5) (a6 : A6), f rec a1 a2 a3 a4 a5 a6 = some r → P a1 a2 a3 a4 a5 a6) : ∀ (n : Nat) (a1 : A1) (a2 : A2) (a3 : A3) (a4 : A4) (a5 : A5) (a6 : A6), loop6 f n a1 a2 a3 a4 a5 a6 = some r → P a1 a2 a3 a4 a5 a6
  | 0, _, _, _, _, _, _, hr => nomatch hr
  | n + 1, a1, a2, a3, a4, a5, a6, hr => h (loop6 f n) (j_loop6 h n) a1 a2 a3 a4 a5 a6 hr
def loop7 {A1 A2 A3 A4 A5 A6 A7 B : Type} (f : (A1 → A2 → A3 → A4 → A5 → A6 → A7 → Option B) → A1 → A2 → A3 → A4 → A5 → A6 → A7 → Option B) : Nat → A1 → A2 → A3 → A4 → A5 → A6 → A7 → Option B
  | 0 => fun _ _ _ _ _ _ _ => none
  | n + 1 => f (loop7 f n)
theorem j_loop7 {A1 A2 A3 A4 A5 A6 A7 B : Type} {r : B} {f : (A1 → A2 → A3 → A4 → A5 → A6 → A7 → Option B) → A1 → A2 → A3 → A4 → A5 → A6 → A7 → Option B} {P : A1 → A2 → A3 → A4 → A5 → A6 → A7 → Prop} (h : ∀ rec : A1 → A2 → A3 → A4 → A5 → A6 → A7 → Option B, (∀ (a1 : A1) (a2 : A2) (a3 : A3) (a4 : A4) (a5 : A5) (a6 : A6) (a7 : A7), rec a1 a2 a3 a4 a5 a6 a7 = some r → P a1 a2 a3 a4 a5 a6 a7) → ∀ (a1 : A1) (a2 : A2) (a3 : A3) (a4 : A4) (a5 : A5) (a6 : A6) (a7 : A7), f rec a1 a2 a3 a4 a5 a6 a7 = some r → P a1 a2 a3 a4 a5 a6 a7) : ∀ (n : Nat) (a1 : A1) (a2 : A2) (a3 : A3) (a4 : A4) (a5 : A5) (a6 : A6) (a7 : A7), loop7 f n a1 a2 a3 a4 a5 a6 a7 = some r → P a1 a2 a3 a4 a5 a6 a7
  | 0, _, _, _, _, _, _, _, hr => nomatch hr
  | n + 1, a1, a2, a3, a4, a5, a6, a7, hr => h (loop7 f n) (j_loop7 h n) a1 a2 a3 a4 a5 a6 a7 hr
def loop8 {A1 A2 A3 A4 A5 A6 A7 A8 B : Type} (f : (A1 → A2 → A3 → A4 → A5 → A6 → A7 → A8 → Option B) → A1 → A2 → A3 → A4 → A5 → A6 → A7 → A8 → Option B) : Nat → A1 → A2 → A3 → A4 → A5 → A6 → A7 → A8 → Option B
  | 0 => fun _ _ _ _ _ _ _ _ => none
  | n + 1 => f (loop8 f n)
theorem j_loop8 {A1 A2 A3 A4 A5 A6 A7 A8 B : Type} {r : B} {f : (A1 → A2 → A3 → A4 → A5 → A6 → A7 → A8 → Option B) → A1 → A2 → A3 → A4 → A5 → A6 → A7 → A8 → Option B} {P : A1 → A2 → A3 → A4 → A5 → A6 → A7 → A8 → Prop} (h : ∀ rec : A1 → A2 → A3 → A4 → A5 → A6 → A7 → A8 → Option B, (∀ (a1 : A1) (a2 : A2) (a3 : A3) (a4 : A4) (a5 : A5) (a6 : A6) (a7 : A7) (a8 : A8), rec a1 a2 a3 a4 a5 a6 a7 a8 = some r → P a1 a2 a3 a4 a5 a6 a7 a8) → ∀ (a1 : A1) (a2 : A2) (a3 : A3) (a4 : A4) (a5 : A5) (a6 : A6) (a7 : A7) (a8 : A8), f rec a1 a2 a3 a4 a5 a6 a7 a8 = some r → P a1 a2 a3 a4 a5 a6 a7 a8) : ∀ (n : Nat) (a1 : A1) (a2 : A2) (a3 : A3) (a4 : A4) (a5 : A5) (a6 : A6) (a7 : A7) (a8 : A8), loop8 f n a1 a2 a3 a4 a5 a6 a7 a8 = some r → P a1 a2 a3 a4 a5 a6 a7 a8
  | 0, _, _, _, _, _, _, _, _, hr => nomatch hr
  | n + 1, a1, a2, a3, a4, a5, a6, a7, a8, hr => h (loop8 f n) (j_loop8 h n) a1 a2 a3 a4 a5 a6 a7 a8 hr
/-! ===== contracts ===== -/
def jPc (L : Lay) (D : va_G) (ad : Nat → Nat) (cA : Nat → ClassId) (rs : va_W) (X : JX) (sz : Nat) (av : List Value) : Array Value → State → Prop := va_Pc av (fun U => U.heap.size = sz ∧ va_P D vwCl (wZ L ad cA X ++ rs) U.heap ∧ va_K D vwCl (jTy cA) U ∧ va_D (fun _ => True) (wZ L ad cA X ++ rs) ∧ jN U)
/-- the contract of a method that throws nothing and makes nothing: called with av in the world X it ends as x says -/
def Cal (L : Lay) (y : MethodName) (cy : ByteArray) (ny : Nat) (ry : Option FieldType) (dy : Nat) (av : (Nat → Nat) → List Value) (X : JX) (x : (Nat → Nat) → JE) : Prop :=
  ∀ (l : Launch) (D : va_G) (ad : Nat → Nat) (cA : Nat → ClassId) (rs : va_W) (sz : Nat), Met l y (.code y cy ny ry :: gTbl) (jRm dy 0 0) (jPc L D ad cA rs X sz (av ad)) (jQc L D ad cA rs (va_A (wZ L ad cA X ++ rs) sz) (x ad)) 0 0 (va_A (wZ L ad cA X ++ rs) sz)
theorem Cal.of {L : Lay} {y : MethodName} {cy : ByteArray} {ny : Nat} {ry : Option FieldType} {dy : Nat} {av : (Nat → Nat) → List Value} {X : JX} {x : (Nat → Nat) → JE} {own : String} (lv : (Nat → Nat) → List (Nat × Value)) (hy : plainName y.cls = true) (ho : y.cls = own) (hlen : ∀ ad, (lg_sl (av ad)).length ≤ ny) (hlv : ∀ ad, lv_args 0 (av ad) = lv ad)
    (k : ∀ κ : JK, jOk ny cy own ry dy κ → jFin L false (x (jad κ)) κ → J L ny κ X 0 (lv (jad κ)) []) : Cal L y cy ny ry dy av X x := by
  intro l D ad cA rs sz
  refine Met.ofW (cc := cy) (maxL := ny) (ret := ry) hy rfl ?_
  intro p e s m args below meth c s₁ B hml hv
  obtain ⟨rfl, hsz, hP, hK, hD0, hN⟩ := hv
  have hx := B.exec
  have hb := B.bytes
  have hr := B.returns
  have hts := atoms_spec (ws := Cond.code y cy ny ry :: gTbl) B.pre
  have hown : s.vm.findClass own = some m.cls := by rw [← ho]; exact findClass_of_methodNamed B.named
  have hlocks := B.notSynchronized
  subst hsz
  have hA : ∀ q : Nat, s.heap.size ≤ q → (va_A (wZ L ad cA X ++ rs) s.heap.size) q := fun q h => Or.inr h
  have hl := lv_entry (av ad) (n := ny) (hlen ad)
  rw [lg_entry_eq]
  have h := k (p, l, e, (headSpec (Cond.code y cy ny ry :: gTbl) (jRm dy 0 0)).room, s, m, (av ad).toArray, below, meth, c, D, va_A (wZ L ad cA X ++ rs) s.heap.size, ad, cA, rs, MQ below (jQc L D ad cA rs (va_A (wZ L ad cA X ++ rs) s.heap.size) (x ad)) (av ad).toArray s 0 0 (va_A (wZ L ad cA X ++ rs) s.heap.size))
    ⟨hx, hb, hml, hown, fun w hw => hts w (List.mem_cons_of_mem _ hw), hr, hlocks, hK, hA, Nat.le_refl _, Nat.le_refl _, hN⟩ rfl
  rw [hlv ad] at hl
  exact h s.heap [] _ hP hD0.self va_S.rf hl
/-- the words of a call: method y of na parameters, at own's entry idx -/
def MLk (own : String) (idx : Nat) (y : MethodName) (cy : ByteArray) (ny : Nat) (ry : Option FieldType) (na : Nat) : Prop := GoodIn gTbl (wsV own idx y.cls y (.code y cy ny ry :: gTbl)) ∧ (y.cls ≠ "java/lang/invoke/MethodHandle" ∧ y.cls ≠ "java/lang/invoke/VarHandle" ∧ (parseMethodDescriptor y.desc).map (fun d => d.parameters.length) = some na)
def MSk (own : String) (idx : Nat) (y : MethodName) (cy : ByteArray) (ny : Nat) (ry : Option FieldType) (na : Nat) : Prop := GoodIn gTbl (va_wsS own idx y (.code y cy ny ry :: gTbl)) ∧ (y.cls ≠ "java/lang/invoke/MethodHandle" ∧ y.cls ≠ "java/lang/invoke/VarHandle" ∧ (parseMethodDescriptor y.desc).map (fun d => d.parameters.length) = some na)
theorem goodIn_c {b a : List Cond} {w : Cond} (h : w ∈ b) (hg : goodWord w = true) (t : GoodIn b a) : GoodIn b (w :: a) := fun v hv => (List.mem_cons.mp hv).elim (fun e => by rw [e]; exact ⟨h, good_of_word hg⟩) (t v)
theorem MLk.of {own : String} {idx : Nat} {y : MethodName} {cy : ByteArray} {ny : Nat} {ry : Option FieldType} {na : Nat} (i1 i2 i3 i4 i5 : Nat) (h1 : lw_tbl[i1]? = some (.methodLink own idx y)) (h2 : lw_tbl[i2]? = some (.instanceMethod y)) (h3 : lw_tbl[i3]? = some (.selects y.cls y y)) (h4 : lw_tbl[i4]? = some (.initialized y.cls)) (h5 : lw_tbl[i5]? = some (.code y cy ny ry)) (hd : y.cls ≠ "java/lang/invoke/MethodHandle" ∧ y.cls ≠ "java/lang/invoke/VarHandle" ∧ (parseMethodDescriptor y.desc).map (fun d => d.parameters.length) = some na) : MLk own idx y cy ny ry na :=
  ⟨goodIn_c (gTbl_at h1 rfl) rfl (goodIn_c (gTbl_at h2 rfl) rfl (goodIn_c (gTbl_at h3 rfl) rfl (goodIn_c (gTbl_at h4 rfl) rfl (goodIn_c (gTbl_at h5 rfl) rfl gTbl_good)))), hd⟩
theorem MSk.of {own : String} {idx : Nat} {y : MethodName} {cy : ByteArray} {ny : Nat} {ry : Option FieldType} {na : Nat} (i1 i2 i3 i4 : Nat) (h1 : lw_tbl[i1]? = some (.methodLink own idx y)) (h2 : lw_tbl[i2]? = some (.static y)) (h3 : lw_tbl[i3]? = some (.initialized y.cls)) (h4 : lw_tbl[i4]? = some (.code y cy ny ry)) (hd : y.cls ≠ "java/lang/invoke/MethodHandle" ∧ y.cls ≠ "java/lang/invoke/VarHandle" ∧ (parseMethodDescriptor y.desc).map (fun d => d.parameters.length) = some na) : MSk own idx y cy ny ry na :=
  ⟨goodIn_c (gTbl_at h1 rfl) rfl (goodIn_c (gTbl_at h2 rfl) rfl (goodIn_c (gTbl_at h3 rfl) rfl (goodIn_c (gTbl_at h4 rfl) rfl gTbl_good))), hd⟩
section JC
variable {p : Program} {l : Launch} {e : Env} {R : Room} {s : State} {m : MethodId} {args : Array Value} {below : List Frame} {meth : Method} {c : Code} {H : Heap} {locs : List Loc} {cells slots : Nat} {Q : State → Prop}
variable {pc : Nat} {ls : Array Slot} {rest st0 : List Value} {a : Array Value} {A0 A1 : Nat → Prop} {H0 : Heap} {mc ms : Nat} {free : Addr → Prop}
theorem w_call {Qa : State → Outcome → State → Prop} {rv : Option Value} {P : Heap → Prop} (hr : va_Run p l e R s m args below meth c H locs cells slots mc ms (F0 m pc ls st0) rest Qa free) (hq : ∀ (st : State) (v : Option Value) (t : State), Qa st (.returned v) t → v = rv ∧ P t.heap ∧ va_F A1 st t) (hS : va_S A0 H0 H locs) (hA : ∀ q, q < H.size → A1 q → A0 q) (hf : ∀ q, free q → A0 q)
    (kk : ∀ (H1 : Heap) (locs1 : List Loc), P H1 → va_S A0 H0 H1 locs1 → W p l e R s m args below meth c H1 locs1 (cells + mc) (slots + ms) Q (F0 m (pc + 3) ls (rv.toList ++ rest))) : W p l e R s m args below meth c H locs cells slots Q (F0 m pc ls st0) := by
  intro T hT X
  obtain ⟨v, st₀, t, T', L, h0, X', hL, e1, e2, hqa, st⟩ := hr T hT X
  obtain ⟨rfl, hp, hz, hk⟩ := hq _ _ _ hqa
  rw [h0] at hz hk
  obtain ⟨t2, a1, b1⟩ := kk T'.heap (locs ++ L) (by rw [e1]; exact hp)
    ⟨Nat.le_trans hS.1 (by rw [e1]; exact hz), fun q h1 h2 => by rw [e1, hk q (Nat.lt_of_lt_of_le h1 hS.1) (fun z => h2 (hA q (Nat.lt_of_lt_of_le h1 hS.1) z))]; exact hS.2.1 q h1 h2, fun q hq => by
      rcases List.mem_append.mp hq with h | h
      · exact hS.2.2 q h
      · exact hf _ (hL q h)⟩ T' rfl X'
  exact ⟨t2, st t2 a1, b1⟩
end JC
theorem jA_lt {A : Nat → Prop} {ws : va_W} {H : Heap} (hD : va_D A ws) : ∀ q, q < H.size → va_A ws H.size q → A q := fun q h1 h2 => h2.elim (fun ⟨k, e, h⟩ => hD.2 k (q, e) h) (fun h => absurd h (Nat.not_le.mpr h1))
theorem jA_all {A : Nat → Prop} {ws : va_W} {H0 H : Heap} {locs : List Loc} (hD : va_D A ws) (hS : va_S A H0 H locs) (hA : ∀ q, H0.size ≤ q → A q) : ∀ q, va_A ws H.size q → A q := fun q h => h.elim (fun ⟨k, e, h⟩ => hD.2 k (q, e) h) (fun h => hA q (Nat.le_trans hS.1 h))
theorem jPc_blind {L : Lay} {D : va_G} {ad : Nat → Nat} {cA : Nat → ClassId} {rs : va_W} {X : JX} {sz : Nat} {av : List Value} : FrameBlind (jPc L D ad cA rs X sz av) := fun a U g mk q => by
  obtain ⟨q0, q1, qP, qK, qD, qN⟩ := q
  exact ⟨q0, q1, qP, va_K.moved (u := U) (U := U.calling g mk a) (Vm.Alike.refl U.vm) qK, qD, jN.same (u := U) (U := U.calling g mk a) rfl qN⟩
section JV
variable {L : Lay} {n : Nat} {cc : ByteArray} {own : String} {ret : Option FieldType} {d : Nat} {κ : JK} {X : JX} {pc : Nat} {lv : List (Nat × Value)} {st : List Value} {β : Type} {r : β}
variable {y : MethodName} {cy : ByteArray} {ny : Nat} {ry : Option FieldType} {dy idx na : Nat}

theorem j_callV (K : jOk n cc own ret d κ) {av : (Nat → Nat) → List Value} {x : (Nat → Nat) → JE} {k ci z : Nat} {As : List Value} {rv : Option Value} {X' : JX} (hc : Cal L y cy ny ry dy av X x) (ml : MLk own idx y cy ny ry na) (hcl : ∃ q : vw_C, vwCl[ci]? = some q ∧ q.1 = y.cls) (hs : L.2.1 k = (10 + ci, z)) (hk : k < L.1) (hci : ci < 90) (hav : av (jad κ) = .ref (jad κ k) :: As) (hn : As.length = na) (hd : dy + 1 ≤ d) (hny : ny ≤ 20) (hst : (st.map fun v => v.category).sum ≤ 8) (hxx : x (jad κ) = (none, rv, X')) (dg : decode cc pc = .ok (.invokevirtual idx, 3)) (kk : J L n κ X' (pc + 3) lv (rv.toList ++ st)) : J L n κ X pc lv (As.reverse ++ .ref (jad κ k) :: st) := by
  obtain ⟨p, l, e, R, s, m, args, below, meth, c, D, A, ad, cA, rs, Q⟩ := κ
  obtain ⟨hx, hb, hml, hown, hts, hr0, hlk, hK, hA, hfr, hlo, hN⟩ := K
  intro H locs ls hP hD hS hl
  obtain ⟨⟨C, T, N⟩, g1, g2⟩ := hcl
  have hM := hc l D ad cA rs H.size
  have hav' : av ad = .ref (ad k) :: As := hav
  have hxx' : x ad = (none, rv, X') := hxx
  rw [hav', hxx'] at hM
  have cw := cwV (R := R) (s := s) (args := args) (own := own) (C := y.cls) (index := idx) (y := y) (bytes := cy) (maxL := ny) (ret := ry) (Ts := gTbl) (ws := .code y cy ny ry :: gTbl) (ws' := gTbl) (rm := jRm dy 0 0) (mc := 0) (ms := 0) na hts ml.1 rfl rfl rfl ⟨rfl, ml.2⟩ ⟨by show dy + 1 ≤ _; omega, by show 8 + (ny + 11) + 39 * dy ≤ _; omega⟩
  refine w_call (rv := rv) (P := fun H => va_P D vwCl (wZ L ad cA X' ++ rs) H) (va_runV (As := As) (rest := st) ⟨hx, hb, hml, hown, hts⟩ hM cw ⟨jPc_blind, ?_, fun U hU hW => ⟨rfl, by rw [hU], by rw [hU]; exact hP, va_K.moved hW.alike hK, hD.weaken (fun _ _ _ _ => trivial), hN.warm hW⟩⟩ rfl hn (hl.1) rfl (lv_room hst) dg ⟨Nat.zero_le _, Nat.zero_le _⟩) (fun st v t h => ⟨?_, h.1.2.2, h.2⟩) hS (jA_lt hD) (jA_all hD hS hA) (fun H locs hP hS => kk H locs ls hP (wZ_D hD) hS hl)
  · rw [← show (C, T, N).1 = y.cls from g2]
    exact va_recv hK hP (ci := ci) (q0 := k) g1 (by rw [wZ_get hk, cZ_ob hs hci])
  · exact Outcome.returned.inj h.1.2.1
theorem j_callS (K : jOk n cc own ret d κ) {av : (Nat → Nat) → List Value} {x : (Nat → Nat) → JE} {As : List Value} {rv : Option Value} {X' : JX} (hc : Cal L y cy ny ry dy av X x) (ml : MSk own idx y cy ny ry na) (hav : av (jad κ) = As) (hn : As.length = na) (hd : dy + 1 ≤ d) (hny : ny ≤ 20) (hst : (st.map fun v => v.category).sum ≤ 8) (hxx : x (jad κ) = (none, rv, X')) (dg : decode cc pc = .ok (.invokestatic idx, 3)) (kk : J L n κ X' (pc + 3) lv (rv.toList ++ st)) : J L n κ X pc lv (As.reverse ++ st) := by
  obtain ⟨p, l, e, R, s, m, args, below, meth, c, D, A, ad, cA, rs, Q⟩ := κ
  obtain ⟨hx, hb, hml, hown, hts, hr0, hlk, hK, hA, hfr, hlo, hN⟩ := K
  intro H locs ls hP hD hS hl
  have hM := hc l D ad cA rs H.size
  have hav' : av ad = As := hav
  have hxx' : x ad = (none, rv, X') := hxx
  rw [hav', hxx'] at hM
  have cw := va_cwS (R := R) (s := s) (args := args) (own := own) (index := idx) (y := y) (bytes := cy) (maxL := ny) (ret := ry) (Ts := gTbl) (ws := .code y cy ny ry :: gTbl) (ws' := gTbl) (rm := jRm dy 0 0) (mc := 0) (ms := 0) na hts ml.1 rfl rfl rfl ml.2 ⟨by show dy + 1 ≤ _; omega, by show 8 + (ny + 11) + 39 * dy ≤ _; omega⟩
  refine w_call (rv := rv) (P := fun H => va_P D vwCl (wZ L ad cA X' ++ rs) H) (va_runS (As := As) (rest := st) ⟨hx, hb, hml, hown, hts⟩ hM cw ⟨jPc_blind, fun U hU hW => ⟨rfl, by rw [hU], by rw [hU]; exact hP, va_K.moved hW.alike hK, hD.weaken (fun _ _ _ _ => trivial), hN.warm hW⟩⟩ rfl hn (hl.1) rfl (lv_room hst) dg ⟨Nat.zero_le _, Nat.zero_le _⟩) (fun st v t h => ⟨?_, h.1.2.2, h.2⟩) hS (jA_lt hD) (jA_all hD hS hA) (fun H locs hP hS => kk H locs ls hP (wZ_D hD) hS hl)
  exact Outcome.returned.inj h.1.2.1
theorem j_vI0 (K : jOk n cc own ret d κ) {ex : Option (Int32)} {g : Int32 → Option β} {av : (Nat → Nat) → List Value} {k ci z : Nat} (hr : ex.bind g = some r) (hc : ∀ v, ex = some v → Cal L y cy ny ry dy av X ((fun v _ => (none, some (.int v), X)) v)) (ml : MLk own idx y cy ny ry 0) (hcl : ∃ q : vw_C, vwCl[ci]? = some q ∧ q.1 = y.cls) (hs : L.2.1 k = (10 + ci, z)) (hk : k < L.1) (hci : ci < 90) (hav : av (jad κ) = [.ref (jad κ k)]) (hd : dy + 1 ≤ d) (hny : ny ≤ 20) (hst : (st.map fun v => v.category).sum ≤ 8) (dg : decode cc pc = .ok (.invokevirtual idx, 3)) (kk : ∀ v, ex = some v → g v = some r → J L n κ X (pc + 3) lv (.int v :: st)) : J L n κ X pc lv (.ref (jad κ k) :: st) := by
  obtain ⟨v, h1, h2⟩ := g_bd hr
  exact j_callV K (As := []) (rv := some (.int v)) (hc v h1) ml hcl hs hk hci hav rfl hd hny hst rfl dg (kk v h1 h2)
theorem j_vI1 (K : jOk n cc own ret d κ) {ex : Option (Int32)} {g : Int32 → Option β} {av : (Nat → Nat) → List Value} {k ci z : Nat} {a1 : Value} (hr : ex.bind g = some r) (hc : ∀ v, ex = some v → Cal L y cy ny ry dy av X ((fun v _ => (none, some (.int v), X)) v)) (ml : MLk own idx y cy ny ry 1) (hcl : ∃ q : vw_C, vwCl[ci]? = some q ∧ q.1 = y.cls) (hs : L.2.1 k = (10 + ci, z)) (hk : k < L.1) (hci : ci < 90) (hav : av (jad κ) = [.ref (jad κ k), a1]) (hd : dy + 1 ≤ d) (hny : ny ≤ 20) (hst : (st.map fun v => v.category).sum ≤ 8) (dg : decode cc pc = .ok (.invokevirtual idx, 3)) (kk : ∀ v, ex = some v → g v = some r → J L n κ X (pc + 3) lv (.int v :: st)) : J L n κ X pc lv (a1 :: .ref (jad κ k) :: st) := by
  obtain ⟨v, h1, h2⟩ := g_bd hr
  exact j_callV K (As := [a1]) (rv := some (.int v)) (hc v h1) ml hcl hs hk hci hav rfl hd hny hst rfl dg (kk v h1 h2)
theorem j_sI1 (K : jOk n cc own ret d κ) {ex : Option (Int32)} {g : Int32 → Option β} {av : (Nat → Nat) → List Value} {a1 : Value} (hr : ex.bind g = some r) (hc : ∀ v, ex = some v → Cal L y cy ny ry dy av X ((fun v _ => (none, some (.int v), X)) v)) (ml : MSk own idx y cy ny ry 1) (hav : av (jad κ) = [a1]) (hd : dy + 1 ≤ d) (hny : ny ≤ 20) (hst : (st.map fun v => v.category).sum ≤ 8) (dg : decode cc pc = .ok (.invokestatic idx, 3)) (kk : ∀ v, ex = some v → g v = some r → J L n κ X (pc + 3) lv (.int v :: st)) : J L n κ X pc lv (a1 :: st) := by
  obtain ⟨v, h1, h2⟩ := g_bd hr
  exact j_callS K (As := [a1]) (rv := some (.int v)) (hc v h1) ml hav rfl hd hny hst rfl dg (kk v h1 h2)
theorem j_vI2 (K : jOk n cc own ret d κ) {ex : Option (Int32)} {g : Int32 → Option β} {av : (Nat → Nat) → List Value} {k ci z : Nat} {a1 a2 : Value} (hr : ex.bind g = some r) (hc : ∀ v, ex = some v → Cal L y cy ny ry dy av X ((fun v _ => (none, some (.int v), X)) v)) (ml : MLk own idx y cy ny ry 2) (hcl : ∃ q : vw_C, vwCl[ci]? = some q ∧ q.1 = y.cls) (hs : L.2.1 k = (10 + ci, z)) (hk : k < L.1) (hci : ci < 90) (hav : av (jad κ) = [.ref (jad κ k), a1, a2]) (hd : dy + 1 ≤ d) (hny : ny ≤ 20) (hst : (st.map fun v => v.category).sum ≤ 8) (dg : decode cc pc = .ok (.invokevirtual idx, 3)) (kk : ∀ v, ex = some v → g v = some r → J L n κ X (pc + 3) lv (.int v :: st)) : J L n κ X pc lv (a2 :: a1 :: .ref (jad κ k) :: st) := by
  obtain ⟨v, h1, h2⟩ := g_bd hr
  exact j_callV K (As := [a1, a2]) (rv := some (.int v)) (hc v h1) ml hcl hs hk hci hav rfl hd hny hst rfl dg (kk v h1 h2)
theorem j_sI2 (K : jOk n cc own ret d κ) {ex : Option (Int32)} {g : Int32 → Option β} {av : (Nat → Nat) → List Value} {a1 a2 : Value} (hr : ex.bind g = some r) (hc : ∀ v, ex = some v → Cal L y cy ny ry dy av X ((fun v _ => (none, some (.int v), X)) v)) (ml : MSk own idx y cy ny ry 2) (hav : av (jad κ) = [a1, a2]) (hd : dy + 1 ≤ d) (hny : ny ≤ 20) (hst : (st.map fun v => v.category).sum ≤ 8) (dg : decode cc pc = .ok (.invokestatic idx, 3)) (kk : ∀ v, ex = some v → g v = some r → J L n κ X (pc + 3) lv (.int v :: st)) : J L n κ X pc lv (a2 :: a1 :: st) := by
  obtain ⟨v, h1, h2⟩ := g_bd hr
  exact j_callS K (As := [a1, a2]) (rv := some (.int v)) (hc v h1) ml hav rfl hd hny hst rfl dg (kk v h1 h2)
theorem j_vI3 (K : jOk n cc own ret d κ) {ex : Option (Int32)} {g : Int32 → Option β} {av : (Nat → Nat) → List Value} {k ci z : Nat} {a1 a2 a3 : Value} (hr : ex.bind g = some r) (hc : ∀ v, ex = some v → Cal L y cy ny ry dy av X ((fun v _ => (none, some (.int v), X)) v)) (ml : MLk own idx y cy ny ry 3) (hcl : ∃ q : vw_C, vwCl[ci]? = some q ∧ q.1 = y.cls) (hs : L.2.1 k = (10 + ci, z)) (hk : k < L.1) (hci : ci < 90) (hav : av (jad κ) = [.ref (jad κ k), a1, a2, a3]) (hd : dy + 1 ≤ d) (hny : ny ≤ 20) (hst : (st.map fun v => v.category).sum ≤ 8) (dg : decode cc pc = .ok (.invokevirtual idx, 3)) (kk : ∀ v, ex = some v → g v = some r → J L n κ X (pc + 3) lv (.int v :: st)) : J L n κ X pc lv (a3 :: a2 :: a1 :: .ref (jad κ k) :: st) := by
  obtain ⟨v, h1, h2⟩ := g_bd hr
  exact j_callV K (As := [a1, a2, a3]) (rv := some (.int v)) (hc v h1) ml hcl hs hk hci hav rfl hd hny hst rfl dg (kk v h1 h2)
theorem j_sI3 (K : jOk n cc own ret d κ) {ex : Option (Int32)} {g : Int32 → Option β} {av : (Nat → Nat) → List Value} {a1 a2 a3 : Value} (hr : ex.bind g = some r) (hc : ∀ v, ex = some v → Cal L y cy ny ry dy av X ((fun v _ => (none, some (.int v), X)) v)) (ml : MSk own idx y cy ny ry 3) (hav : av (jad κ) = [a1, a2, a3]) (hd : dy + 1 ≤ d) (hny : ny ≤ 20) (hst : (st.map fun v => v.category).sum ≤ 8) (dg : decode cc pc = .ok (.invokestatic idx, 3)) (kk : ∀ v, ex = some v → g v = some r → J L n κ X (pc + 3) lv (.int v :: st)) : J L n κ X pc lv (a3 :: a2 :: a1 :: st) := by
  obtain ⟨v, h1, h2⟩ := g_bd hr
  exact j_callS K (As := [a1, a2, a3]) (rv := some (.int v)) (hc v h1) ml hav rfl hd hny hst rfl dg (kk v h1 h2)
theorem j_vI4 (K : jOk n cc own ret d κ) {ex : Option (Int32)} {g : Int32 → Option β} {av : (Nat → Nat) → List Value} {k ci z : Nat} {a1 a2 a3 a4 : Value} (hr : ex.bind g = some r) (hc : ∀ v, ex = some v → Cal L y cy ny ry dy av X ((fun v _ => (none, some (.int v), X)) v)) (ml : MLk own idx y cy ny ry 4) (hcl : ∃ q : vw_C, vwCl[ci]? = some q ∧ q.1 = y.cls) (hs : L.2.1 k = (10 + ci, z)) (hk : k < L.1) (hci : ci < 90) (hav : av (jad κ) = [.ref (jad κ k), a1, a2, a3, a4]) (hd : dy + 1 ≤ d) (hny : ny ≤ 20) (hst : (st.map fun v => v.category).sum ≤ 8) (dg : decode cc pc = .ok (.invokevirtual idx, 3)) (kk : ∀ v, ex = some v → g v = some r → J L n κ X (pc + 3) lv (.int v :: st)) : J L n κ X pc lv (a4 :: a3 :: a2 :: a1 :: .ref (jad κ k) :: st) := by
  obtain ⟨v, h1, h2⟩ := g_bd hr
  exact j_callV K (As := [a1, a2, a3, a4]) (rv := some (.int v)) (hc v h1) ml hcl hs hk hci hav rfl hd hny hst rfl dg (kk v h1 h2)
theorem j_sI4 (K : jOk n cc own ret d κ) {ex : Option (Int32)} {g : Int32 → Option β} {av : (Nat → Nat) → List Value} {a1 a2 a3 a4 : Value} (hr : ex.bind g = some r) (hc : ∀ v, ex = some v → Cal L y cy ny ry dy av X ((fun v _ => (none, some (.int v), X)) v)) (ml : MSk own idx y cy ny ry 4) (hav : av (jad κ) = [a1, a2, a3, a4]) (hd : dy + 1 ≤ d) (hny : ny ≤ 20) (hst : (st.map fun v => v.category).sum ≤ 8) (dg : decode cc pc = .ok (.invokestatic idx, 3)) (kk : ∀ v, ex = some v → g v = some r → J L n κ X (pc + 3) lv (.int v :: st)) : J L n κ X pc lv (a4 :: a3 :: a2 :: a1 :: st) := by
  obtain ⟨v, h1, h2⟩ := g_bd hr
  exact j_callS K (As := [a1, a2, a3, a4]) (rv := some (.int v)) (hc v h1) ml hav rfl hd hny hst rfl dg (kk v h1 h2)
theorem j_vI5 (K : jOk n cc own ret d κ) {ex : Option (Int32)} {g : Int32 → Option β} {av : (Nat → Nat) → List Value} {k ci z : Nat} {a1 a2 a3 a4 a5 : Value} (hr : ex.bind g = some r) (hc : ∀ v, ex = some v → Cal L y cy ny ry dy av X ((fun v _ => (none, some (.int v), X)) v)) (ml : MLk own idx y cy ny ry 5) (hcl : ∃ q : vw_C, vwCl[ci]? = some q ∧ q.1 = y.cls) (hs : L.2.1 k = (10 + ci, z)) (hk : k < L.1) (hci : ci < 90) (hav : av (jad κ) = [.ref (jad κ k), a1, a2, a3, a4, a5]) (hd : dy + 1 ≤ d) (hny : ny ≤ 20) (hst : (st.map fun v => v.category).sum ≤ 8) (dg : decode cc pc = .ok (.invokevirtual idx, 3)) (kk : ∀ v, ex = some v → g v = some r → J L n κ X (pc + 3) lv (.int v :: st)) : J L n κ X pc lv (a5 :: a4 :: a3 :: a2 :: a1 :: .ref (jad κ k) :: st) := by
  obtain ⟨v, h1, h2⟩ := g_bd hr
  exact j_callV K (As := [a1, a2, a3, a4, a5]) (rv := some (.int v)) (hc v h1) ml hcl hs hk hci hav rfl hd hny hst rfl dg (kk v h1 h2)
theorem j_sI5 (K : jOk n cc own ret d κ) {ex : Option (Int32)} {g : Int32 → Option β} {av : (Nat → Nat) → List Value} {a1 a2 a3 a4 a5 : Value} (hr : ex.bind g = some r) (hc : ∀ v, ex = some v → Cal L y cy ny ry dy av X ((fun v _ => (none, some (.int v), X)) v)) (ml : MSk own idx y cy ny ry 5) (hav : av (jad κ) = [a1, a2, a3, a4, a5]) (hd : dy + 1 ≤ d) (hny : ny ≤ 20) (hst : (st.map fun v => v.category).sum ≤ 8) (dg : decode cc pc = .ok (.invokestatic idx, 3)) (kk : ∀ v, ex = some v → g v = some r → J L n κ X (pc + 3) lv (.int v :: st)) : J L n κ X pc lv (a5 :: a4 :: a3 :: a2 :: a1 :: st) := by
  obtain ⟨v, h1, h2⟩ := g_bd hr
  exact j_callS K (As := [a1, a2, a3, a4, a5]) (rv := some (.int v)) (hc v h1) ml hav rfl hd hny hst rfl dg (kk v h1 h2)
theorem j_vM0 (K : jOk n cc own ret d κ) {ex : Option (Int32 × JX)} {g : Int32 × JX → Option β} {av : (Nat → Nat) → List Value} {k ci z : Nat} (hr : ex.bind g = some r) (hc : ∀ v, ex = some v → Cal L y cy ny ry dy av X ((fun v _ => (none, some (.int v.1), v.2)) v)) (ml : MLk own idx y cy ny ry 0) (hcl : ∃ q : vw_C, vwCl[ci]? = some q ∧ q.1 = y.cls) (hs : L.2.1 k = (10 + ci, z)) (hk : k < L.1) (hci : ci < 90) (hav : av (jad κ) = [.ref (jad κ k)]) (hd : dy + 1 ≤ d) (hny : ny ≤ 20) (hst : (st.map fun v => v.category).sum ≤ 8) (dg : decode cc pc = .ok (.invokevirtual idx, 3)) (kk : ∀ v, ex = some v → g v = some r → J L n κ (v.2) (pc + 3) lv (.int v.1 :: st)) : J L n κ X pc lv (.ref (jad κ k) :: st) := by
  obtain ⟨v, h1, h2⟩ := g_bd hr
  exact j_callV K (As := []) (rv := some (.int v.1)) (hc v h1) ml hcl hs hk hci hav rfl hd hny hst rfl dg (kk v h1 h2)
theorem j_vM1 (K : jOk n cc own ret d κ) {ex : Option (Int32 × JX)} {g : Int32 × JX → Option β} {av : (Nat → Nat) → List Value} {k ci z : Nat} {a1 : Value} (hr : ex.bind g = some r) (hc : ∀ v, ex = some v → Cal L y cy ny ry dy av X ((fun v _ => (none, some (.int v.1), v.2)) v)) (ml : MLk own idx y cy ny ry 1) (hcl : ∃ q : vw_C, vwCl[ci]? = some q ∧ q.1 = y.cls) (hs : L.2.1 k = (10 + ci, z)) (hk : k < L.1) (hci : ci < 90) (hav : av (jad κ) = [.ref (jad κ k), a1]) (hd : dy + 1 ≤ d) (hny : ny ≤ 20) (hst : (st.map fun v => v.category).sum ≤ 8) (dg : decode cc pc = .ok (.invokevirtual idx, 3)) (kk : ∀ v, ex = some v → g v = some r → J L n κ (v.2) (pc + 3) lv (.int v.1 :: st)) : J L n κ X pc lv (a1 :: .ref (jad κ k) :: st) := by
  obtain ⟨v, h1, h2⟩ := g_bd hr
  exact j_callV K (As := [a1]) (rv := some (.int v.1)) (hc v h1) ml hcl hs hk hci hav rfl hd hny hst rfl dg (kk v h1 h2)
theorem j_vM2 (K : jOk n cc own ret d κ) {ex : Option (Int32 × JX)} {g : Int32 × JX → Option β} {av : (Nat → Nat) → List Value} {k ci z : Nat} {a1 a2 : Value} (hr : ex.bind g = some r) (hc : ∀ v, ex = some v → Cal L y cy ny ry dy av X ((fun v _ => (none, some (.int v.1), v.2)) v)) (ml : MLk own idx y cy ny ry 2) (hcl : ∃ q : vw_C, vwCl[ci]? = some q ∧ q.1 = y.cls) (hs : L.2.1 k = (10 + ci, z)) (hk : k < L.1) (hci : ci < 90) (hav : av (jad κ) = [.ref (jad κ k), a1, a2]) (hd : dy + 1 ≤ d) (hny : ny ≤ 20) (hst : (st.map fun v => v.category).sum ≤ 8) (dg : decode cc pc = .ok (.invokevirtual idx, 3)) (kk : ∀ v, ex = some v → g v = some r → J L n κ (v.2) (pc + 3) lv (.int v.1 :: st)) : J L n κ X pc lv (a2 :: a1 :: .ref (jad κ k) :: st) := by
  obtain ⟨v, h1, h2⟩ := g_bd hr
  exact j_callV K (As := [a1, a2]) (rv := some (.int v.1)) (hc v h1) ml hcl hs hk hci hav rfl hd hny hst rfl dg (kk v h1 h2)
theorem j_vM3 (K : jOk n cc own ret d κ) {ex : Option (Int32 × JX)} {g : Int32 × JX → Option β} {av : (Nat → Nat) → List Value} {k ci z : Nat} {a1 a2 a3 : Value} (hr : ex.bind g = some r) (hc : ∀ v, ex = some v → Cal L y cy ny ry dy av X ((fun v _ => (none, some (.int v.1), v.2)) v)) (ml : MLk own idx y cy ny ry 3) (hcl : ∃ q : vw_C, vwCl[ci]? = some q ∧ q.1 = y.cls) (hs : L.2.1 k = (10 + ci, z)) (hk : k < L.1) (hci : ci < 90) (hav : av (jad κ) = [.ref (jad κ k), a1, a2, a3]) (hd : dy + 1 ≤ d) (hny : ny ≤ 20) (hst : (st.map fun v => v.category).sum ≤ 8) (dg : decode cc pc = .ok (.invokevirtual idx, 3)) (kk : ∀ v, ex = some v → g v = some r → J L n κ (v.2) (pc + 3) lv (.int v.1 :: st)) : J L n κ X pc lv (a3 :: a2 :: a1 :: .ref (jad κ k) :: st) := by
  obtain ⟨v, h1, h2⟩ := g_bd hr
  exact j_callV K (As := [a1, a2, a3]) (rv := some (.int v.1)) (hc v h1) ml hcl hs hk hci hav rfl hd hny hst rfl dg (kk v h1 h2)
theorem j_vM4 (K : jOk n cc own ret d κ) {ex : Option (Int32 × JX)} {g : Int32 × JX → Option β} {av : (Nat → Nat) → List Value} {k ci z : Nat} {a1 a2 a3 a4 : Value} (hr : ex.bind g = some r) (hc : ∀ v, ex = some v → Cal L y cy ny ry dy av X ((fun v _ => (none, some (.int v.1), v.2)) v)) (ml : MLk own idx y cy ny ry 4) (hcl : ∃ q : vw_C, vwCl[ci]? = some q ∧ q.1 = y.cls) (hs : L.2.1 k = (10 + ci, z)) (hk : k < L.1) (hci : ci < 90) (hav : av (jad κ) = [.ref (jad κ k), a1, a2, a3, a4]) (hd : dy + 1 ≤ d) (hny : ny ≤ 20) (hst : (st.map fun v => v.category).sum ≤ 8) (dg : decode cc pc = .ok (.invokevirtual idx, 3)) (kk : ∀ v, ex = some v → g v = some r → J L n κ (v.2) (pc + 3) lv (.int v.1 :: st)) : J L n κ X pc lv (a4 :: a3 :: a2 :: a1 :: .ref (jad κ k) :: st) := by
  obtain ⟨v, h1, h2⟩ := g_bd hr
  exact j_callV K (As := [a1, a2, a3, a4]) (rv := some (.int v.1)) (hc v h1) ml hcl hs hk hci hav rfl hd hny hst rfl dg (kk v h1 h2)
theorem j_vM5 (K : jOk n cc own ret d κ) {ex : Option (Int32 × JX)} {g : Int32 × JX → Option β} {av : (Nat → Nat) → List Value} {k ci z : Nat} {a1 a2 a3 a4 a5 : Value} (hr : ex.bind g = some r) (hc : ∀ v, ex = some v → Cal L y cy ny ry dy av X ((fun v _ => (none, some (.int v.1), v.2)) v)) (ml : MLk own idx y cy ny ry 5) (hcl : ∃ q : vw_C, vwCl[ci]? = some q ∧ q.1 = y.cls) (hs : L.2.1 k = (10 + ci, z)) (hk : k < L.1) (hci : ci < 90) (hav : av (jad κ) = [.ref (jad κ k), a1, a2, a3, a4, a5]) (hd : dy + 1 ≤ d) (hny : ny ≤ 20) (hst : (st.map fun v => v.category).sum ≤ 8) (dg : decode cc pc = .ok (.invokevirtual idx, 3)) (kk : ∀ v, ex = some v → g v = some r → J L n κ (v.2) (pc + 3) lv (.int v.1 :: st)) : J L n κ X pc lv (a5 :: a4 :: a3 :: a2 :: a1 :: .ref (jad κ k) :: st) := by
  obtain ⟨v, h1, h2⟩ := g_bd hr
  exact j_callV K (As := [a1, a2, a3, a4, a5]) (rv := some (.int v.1)) (hc v h1) ml hcl hs hk hci hav rfl hd hny hst rfl dg (kk v h1 h2)
theorem j_vU0 (K : jOk n cc own ret d κ) {ex : Option (JX)} {g : JX → Option β} {av : (Nat → Nat) → List Value} {k ci z : Nat} (hr : ex.bind g = some r) (hc : ∀ v, ex = some v → Cal L y cy ny ry dy av X ((fun v _ => (none, none, v)) v)) (ml : MLk own idx y cy ny ry 0) (hcl : ∃ q : vw_C, vwCl[ci]? = some q ∧ q.1 = y.cls) (hs : L.2.1 k = (10 + ci, z)) (hk : k < L.1) (hci : ci < 90) (hav : av (jad κ) = [.ref (jad κ k)]) (hd : dy + 1 ≤ d) (hny : ny ≤ 20) (hst : (st.map fun v => v.category).sum ≤ 8) (dg : decode cc pc = .ok (.invokevirtual idx, 3)) (kk : ∀ v, ex = some v → g v = some r → J L n κ (v) (pc + 3) lv st) : J L n κ X pc lv (.ref (jad κ k) :: st) := by
  obtain ⟨v, h1, h2⟩ := g_bd hr
  exact j_callV K (As := []) (rv := none) (hc v h1) ml hcl hs hk hci hav rfl hd hny hst rfl dg (kk v h1 h2)
theorem j_vU1 (K : jOk n cc own ret d κ) {ex : Option (JX)} {g : JX → Option β} {av : (Nat → Nat) → List Value} {k ci z : Nat} {a1 : Value} (hr : ex.bind g = some r) (hc : ∀ v, ex = some v → Cal L y cy ny ry dy av X ((fun v _ => (none, none, v)) v)) (ml : MLk own idx y cy ny ry 1) (hcl : ∃ q : vw_C, vwCl[ci]? = some q ∧ q.1 = y.cls) (hs : L.2.1 k = (10 + ci, z)) (hk : k < L.1) (hci : ci < 90) (hav : av (jad κ) = [.ref (jad κ k), a1]) (hd : dy + 1 ≤ d) (hny : ny ≤ 20) (hst : (st.map fun v => v.category).sum ≤ 8) (dg : decode cc pc = .ok (.invokevirtual idx, 3)) (kk : ∀ v, ex = some v → g v = some r → J L n κ (v) (pc + 3) lv st) : J L n κ X pc lv (a1 :: .ref (jad κ k) :: st) := by
  obtain ⟨v, h1, h2⟩ := g_bd hr
  exact j_callV K (As := [a1]) (rv := none) (hc v h1) ml hcl hs hk hci hav rfl hd hny hst rfl dg (kk v h1 h2)
theorem j_sU1 (K : jOk n cc own ret d κ) {ex : Option (JX)} {g : JX → Option β} {av : (Nat → Nat) → List Value} {a1 : Value} (hr : ex.bind g = some r) (hc : ∀ v, ex = some v → Cal L y cy ny ry dy av X ((fun v _ => (none, none, v)) v)) (ml : MSk own idx y cy ny ry 1) (hav : av (jad κ) = [a1]) (hd : dy + 1 ≤ d) (hny : ny ≤ 20) (hst : (st.map fun v => v.category).sum ≤ 8) (dg : decode cc pc = .ok (.invokestatic idx, 3)) (kk : ∀ v, ex = some v → g v = some r → J L n κ v (pc + 3) lv st) : J L n κ X pc lv (a1 :: st) := by
  obtain ⟨v, h1, h2⟩ := g_bd hr
  exact j_callS K (As := [a1]) (rv := none) (hc v h1) ml hav rfl hd hny hst rfl dg (kk v h1 h2)
theorem j_vU2 (K : jOk n cc own ret d κ) {ex : Option (JX)} {g : JX → Option β} {av : (Nat → Nat) → List Value} {k ci z : Nat} {a1 a2 : Value} (hr : ex.bind g = some r) (hc : ∀ v, ex = some v → Cal L y cy ny ry dy av X ((fun v _ => (none, none, v)) v)) (ml : MLk own idx y cy ny ry 2) (hcl : ∃ q : vw_C, vwCl[ci]? = some q ∧ q.1 = y.cls) (hs : L.2.1 k = (10 + ci, z)) (hk : k < L.1) (hci : ci < 90) (hav : av (jad κ) = [.ref (jad κ k), a1, a2]) (hd : dy + 1 ≤ d) (hny : ny ≤ 20) (hst : (st.map fun v => v.category).sum ≤ 8) (dg : decode cc pc = .ok (.invokevirtual idx, 3)) (kk : ∀ v, ex = some v → g v = some r → J L n κ (v) (pc + 3) lv st) : J L n κ X pc lv (a2 :: a1 :: .ref (jad κ k) :: st) := by
  obtain ⟨v, h1, h2⟩ := g_bd hr
  exact j_callV K (As := [a1, a2]) (rv := none) (hc v h1) ml hcl hs hk hci hav rfl hd hny hst rfl dg (kk v h1 h2)
theorem j_sU2 (K : jOk n cc own ret d κ) {ex : Option (JX)} {g : JX → Option β} {av : (Nat → Nat) → List Value} {a1 a2 : Value} (hr : ex.bind g = some r) (hc : ∀ v, ex = some v → Cal L y cy ny ry dy av X ((fun v _ => (none, none, v)) v)) (ml : MSk own idx y cy ny ry 2) (hav : av (jad κ) = [a1, a2]) (hd : dy + 1 ≤ d) (hny : ny ≤ 20) (hst : (st.map fun v => v.category).sum ≤ 8) (dg : decode cc pc = .ok (.invokestatic idx, 3)) (kk : ∀ v, ex = some v → g v = some r → J L n κ v (pc + 3) lv st) : J L n κ X pc lv (a2 :: a1 :: st) := by
  obtain ⟨v, h1, h2⟩ := g_bd hr
  exact j_callS K (As := [a1, a2]) (rv := none) (hc v h1) ml hav rfl hd hny hst rfl dg (kk v h1 h2)
theorem j_vU3 (K : jOk n cc own ret d κ) {ex : Option (JX)} {g : JX → Option β} {av : (Nat → Nat) → List Value} {k ci z : Nat} {a1 a2 a3 : Value} (hr : ex.bind g = some r) (hc : ∀ v, ex = some v → Cal L y cy ny ry dy av X ((fun v _ => (none, none, v)) v)) (ml : MLk own idx y cy ny ry 3) (hcl : ∃ q : vw_C, vwCl[ci]? = some q ∧ q.1 = y.cls) (hs : L.2.1 k = (10 + ci, z)) (hk : k < L.1) (hci : ci < 90) (hav : av (jad κ) = [.ref (jad κ k), a1, a2, a3]) (hd : dy + 1 ≤ d) (hny : ny ≤ 20) (hst : (st.map fun v => v.category).sum ≤ 8) (dg : decode cc pc = .ok (.invokevirtual idx, 3)) (kk : ∀ v, ex = some v → g v = some r → J L n κ (v) (pc + 3) lv st) : J L n κ X pc lv (a3 :: a2 :: a1 :: .ref (jad κ k) :: st) := by
  obtain ⟨v, h1, h2⟩ := g_bd hr
  exact j_callV K (As := [a1, a2, a3]) (rv := none) (hc v h1) ml hcl hs hk hci hav rfl hd hny hst rfl dg (kk v h1 h2)
theorem j_sU3 (K : jOk n cc own ret d κ) {ex : Option (JX)} {g : JX → Option β} {av : (Nat → Nat) → List Value} {a1 a2 a3 : Value} (hr : ex.bind g = some r) (hc : ∀ v, ex = some v → Cal L y cy ny ry dy av X ((fun v _ => (none, none, v)) v)) (ml : MSk own idx y cy ny ry 3) (hav : av (jad κ) = [a1, a2, a3]) (hd : dy + 1 ≤ d) (hny : ny ≤ 20) (hst : (st.map fun v => v.category).sum ≤ 8) (dg : decode cc pc = .ok (.invokestatic idx, 3)) (kk : ∀ v, ex = some v → g v = some r → J L n κ v (pc + 3) lv st) : J L n κ X pc lv (a3 :: a2 :: a1 :: st) := by
  obtain ⟨v, h1, h2⟩ := g_bd hr
  exact j_callS K (As := [a1, a2, a3]) (rv := none) (hc v h1) ml hav rfl hd hny hst rfl dg (kk v h1 h2)
theorem j_vU4 (K : jOk n cc own ret d κ) {ex : Option (JX)} {g : JX → Option β} {av : (Nat → Nat) → List Value} {k ci z : Nat} {a1 a2 a3 a4 : Value} (hr : ex.bind g = some r) (hc : ∀ v, ex = some v → Cal L y cy ny ry dy av X ((fun v _ => (none, none, v)) v)) (ml : MLk own idx y cy ny ry 4) (hcl : ∃ q : vw_C, vwCl[ci]? = some q ∧ q.1 = y.cls) (hs : L.2.1 k = (10 + ci, z)) (hk : k < L.1) (hci : ci < 90) (hav : av (jad κ) = [.ref (jad κ k), a1, a2, a3, a4]) (hd : dy + 1 ≤ d) (hny : ny ≤ 20) (hst : (st.map fun v => v.category).sum ≤ 8) (dg : decode cc pc = .ok (.invokevirtual idx, 3)) (kk : ∀ v, ex = some v → g v = some r → J L n κ (v) (pc + 3) lv st) : J L n κ X pc lv (a4 :: a3 :: a2 :: a1 :: .ref (jad κ k) :: st) := by
  obtain ⟨v, h1, h2⟩ := g_bd hr
  exact j_callV K (As := [a1, a2, a3, a4]) (rv := none) (hc v h1) ml hcl hs hk hci hav rfl hd hny hst rfl dg (kk v h1 h2)
theorem j_sU4 (K : jOk n cc own ret d κ) {ex : Option (JX)} {g : JX → Option β} {av : (Nat → Nat) → List Value} {a1 a2 a3 a4 : Value} (hr : ex.bind g = some r) (hc : ∀ v, ex = some v → Cal L y cy ny ry dy av X ((fun v _ => (none, none, v)) v)) (ml : MSk own idx y cy ny ry 4) (hav : av (jad κ) = [a1, a2, a3, a4]) (hd : dy + 1 ≤ d) (hny : ny ≤ 20) (hst : (st.map fun v => v.category).sum ≤ 8) (dg : decode cc pc = .ok (.invokestatic idx, 3)) (kk : ∀ v, ex = some v → g v = some r → J L n κ v (pc + 3) lv st) : J L n κ X pc lv (a4 :: a3 :: a2 :: a1 :: st) := by
  obtain ⟨v, h1, h2⟩ := g_bd hr
  exact j_callS K (As := [a1, a2, a3, a4]) (rv := none) (hc v h1) ml hav rfl hd hny hst rfl dg (kk v h1 h2)
theorem j_vU5 (K : jOk n cc own ret d κ) {ex : Option (JX)} {g : JX → Option β} {av : (Nat → Nat) → List Value} {k ci z : Nat} {a1 a2 a3 a4 a5 : Value} (hr : ex.bind g = some r) (hc : ∀ v, ex = some v → Cal L y cy ny ry dy av X ((fun v _ => (none, none, v)) v)) (ml : MLk own idx y cy ny ry 5) (hcl : ∃ q : vw_C, vwCl[ci]? = some q ∧ q.1 = y.cls) (hs : L.2.1 k = (10 + ci, z)) (hk : k < L.1) (hci : ci < 90) (hav : av (jad κ) = [.ref (jad κ k), a1, a2, a3, a4, a5]) (hd : dy + 1 ≤ d) (hny : ny ≤ 20) (hst : (st.map fun v => v.category).sum ≤ 8) (dg : decode cc pc = .ok (.invokevirtual idx, 3)) (kk : ∀ v, ex = some v → g v = some r → J L n κ (v) (pc + 3) lv st) : J L n κ X pc lv (a5 :: a4 :: a3 :: a2 :: a1 :: .ref (jad κ k) :: st) := by
  obtain ⟨v, h1, h2⟩ := g_bd hr
  exact j_callV K (As := [a1, a2, a3, a4, a5]) (rv := none) (hc v h1) ml hcl hs hk hci hav rfl hd hny hst rfl dg (kk v h1 h2)
theorem j_sU5 (K : jOk n cc own ret d κ) {ex : Option (JX)} {g : JX → Option β} {av : (Nat → Nat) → List Value} {a1 a2 a3 a4 a5 : Value} (hr : ex.bind g = some r) (hc : ∀ v, ex = some v → Cal L y cy ny ry dy av X ((fun v _ => (none, none, v)) v)) (ml : MSk own idx y cy ny ry 5) (hav : av (jad κ) = [a1, a2, a3, a4, a5]) (hd : dy + 1 ≤ d) (hny : ny ≤ 20) (hst : (st.map fun v => v.category).sum ≤ 8) (dg : decode cc pc = .ok (.invokestatic idx, 3)) (kk : ∀ v, ex = some v → g v = some r → J L n κ v (pc + 3) lv st) : J L n κ X pc lv (a5 :: a4 :: a3 :: a2 :: a1 :: st) := by
  obtain ⟨v, h1, h2⟩ := g_bd hr
  exact j_callS K (As := [a1, a2, a3, a4, a5]) (rv := none) (hc v h1) ml hav rfl hd hny hst rfl dg (kk v h1 h2)
theorem j_vR0 (K : jOk n cc own ret d κ) {ex : Option (Nat)} {g : Nat → Option β} {av : (Nat → Nat) → List Value} {k ci z : Nat} (hr : ex.bind g = some r) (hc : ∀ v, ex = some v → Cal L y cy ny ry dy av X ((fun v ad => (none, some (.ref (ad v)), X)) v)) (ml : MLk own idx y cy ny ry 0) (hcl : ∃ q : vw_C, vwCl[ci]? = some q ∧ q.1 = y.cls) (hs : L.2.1 k = (10 + ci, z)) (hk : k < L.1) (hci : ci < 90) (hav : av (jad κ) = [.ref (jad κ k)]) (hd : dy + 1 ≤ d) (hny : ny ≤ 20) (hst : (st.map fun v => v.category).sum ≤ 8) (dg : decode cc pc = .ok (.invokevirtual idx, 3)) (kk : ∀ v, ex = some v → g v = some r → J L n κ X (pc + 3) lv (.ref (jad κ v) :: st)) : J L n κ X pc lv (.ref (jad κ k) :: st) := by
  obtain ⟨v, h1, h2⟩ := g_bd hr
  exact j_callV K (As := []) (rv := some (.ref (jad κ v))) (hc v h1) ml hcl hs hk hci hav rfl hd hny hst rfl dg (kk v h1 h2)
theorem j_vR1 (K : jOk n cc own ret d κ) {ex : Option (Nat)} {g : Nat → Option β} {av : (Nat → Nat) → List Value} {k ci z : Nat} {a1 : Value} (hr : ex.bind g = some r) (hc : ∀ v, ex = some v → Cal L y cy ny ry dy av X ((fun v ad => (none, some (.ref (ad v)), X)) v)) (ml : MLk own idx y cy ny ry 1) (hcl : ∃ q : vw_C, vwCl[ci]? = some q ∧ q.1 = y.cls) (hs : L.2.1 k = (10 + ci, z)) (hk : k < L.1) (hci : ci < 90) (hav : av (jad κ) = [.ref (jad κ k), a1]) (hd : dy + 1 ≤ d) (hny : ny ≤ 20) (hst : (st.map fun v => v.category).sum ≤ 8) (dg : decode cc pc = .ok (.invokevirtual idx, 3)) (kk : ∀ v, ex = some v → g v = some r → J L n κ X (pc + 3) lv (.ref (jad κ v) :: st)) : J L n κ X pc lv (a1 :: .ref (jad κ k) :: st) := by
  obtain ⟨v, h1, h2⟩ := g_bd hr
  exact j_callV K (As := [a1]) (rv := some (.ref (jad κ v))) (hc v h1) ml hcl hs hk hci hav rfl hd hny hst rfl dg (kk v h1 h2)
theorem j_vR2 (K : jOk n cc own ret d κ) {ex : Option (Nat)} {g : Nat → Option β} {av : (Nat → Nat) → List Value} {k ci z : Nat} {a1 a2 : Value} (hr : ex.bind g = some r) (hc : ∀ v, ex = some v → Cal L y cy ny ry dy av X ((fun v ad => (none, some (.ref (ad v)), X)) v)) (ml : MLk own idx y cy ny ry 2) (hcl : ∃ q : vw_C, vwCl[ci]? = some q ∧ q.1 = y.cls) (hs : L.2.1 k = (10 + ci, z)) (hk : k < L.1) (hci : ci < 90) (hav : av (jad κ) = [.ref (jad κ k), a1, a2]) (hd : dy + 1 ≤ d) (hny : ny ≤ 20) (hst : (st.map fun v => v.category).sum ≤ 8) (dg : decode cc pc = .ok (.invokevirtual idx, 3)) (kk : ∀ v, ex = some v → g v = some r → J L n κ X (pc + 3) lv (.ref (jad κ v) :: st)) : J L n κ X pc lv (a2 :: a1 :: .ref (jad κ k) :: st) := by
  obtain ⟨v, h1, h2⟩ := g_bd hr
  exact j_callV K (As := [a1, a2]) (rv := some (.ref (jad κ v))) (hc v h1) ml hcl hs hk hci hav rfl hd hny hst rfl dg (kk v h1 h2)
theorem j_vR3 (K : jOk n cc own ret d κ) {ex : Option (Nat)} {g : Nat → Option β} {av : (Nat → Nat) → List Value} {k ci z : Nat} {a1 a2 a3 : Value} (hr : ex.bind g = some r) (hc : ∀ v, ex = some v → Cal L y cy ny ry dy av X ((fun v ad => (none, some (.ref (ad v)), X)) v)) (ml : MLk own idx y cy ny ry 3) (hcl : ∃ q : vw_C, vwCl[ci]? = some q ∧ q.1 = y.cls) (hs : L.2.1 k = (10 + ci, z)) (hk : k < L.1) (hci : ci < 90) (hav : av (jad κ) = [.ref (jad κ k), a1, a2, a3]) (hd : dy + 1 ≤ d) (hny : ny ≤ 20) (hst : (st.map fun v => v.category).sum ≤ 8) (dg : decode cc pc = .ok (.invokevirtual idx, 3)) (kk : ∀ v, ex = some v → g v = some r → J L n κ X (pc + 3) lv (.ref (jad κ v) :: st)) : J L n κ X pc lv (a3 :: a2 :: a1 :: .ref (jad κ k) :: st) := by
  obtain ⟨v, h1, h2⟩ := g_bd hr
  exact j_callV K (As := [a1, a2, a3]) (rv := some (.ref (jad κ v))) (hc v h1) ml hcl hs hk hci hav rfl hd hny hst rfl dg (kk v h1 h2)
theorem j_vR4 (K : jOk n cc own ret d κ) {ex : Option (Nat)} {g : Nat → Option β} {av : (Nat → Nat) → List Value} {k ci z : Nat} {a1 a2 a3 a4 : Value} (hr : ex.bind g = some r) (hc : ∀ v, ex = some v → Cal L y cy ny ry dy av X ((fun v ad => (none, some (.ref (ad v)), X)) v)) (ml : MLk own idx y cy ny ry 4) (hcl : ∃ q : vw_C, vwCl[ci]? = some q ∧ q.1 = y.cls) (hs : L.2.1 k = (10 + ci, z)) (hk : k < L.1) (hci : ci < 90) (hav : av (jad κ) = [.ref (jad κ k), a1, a2, a3, a4]) (hd : dy + 1 ≤ d) (hny : ny ≤ 20) (hst : (st.map fun v => v.category).sum ≤ 8) (dg : decode cc pc = .ok (.invokevirtual idx, 3)) (kk : ∀ v, ex = some v → g v = some r → J L n κ X (pc + 3) lv (.ref (jad κ v) :: st)) : J L n κ X pc lv (a4 :: a3 :: a2 :: a1 :: .ref (jad κ k) :: st) := by
  obtain ⟨v, h1, h2⟩ := g_bd hr
  exact j_callV K (As := [a1, a2, a3, a4]) (rv := some (.ref (jad κ v))) (hc v h1) ml hcl hs hk hci hav rfl hd hny hst rfl dg (kk v h1 h2)
theorem j_vR5 (K : jOk n cc own ret d κ) {ex : Option (Nat)} {g : Nat → Option β} {av : (Nat → Nat) → List Value} {k ci z : Nat} {a1 a2 a3 a4 a5 : Value} (hr : ex.bind g = some r) (hc : ∀ v, ex = some v → Cal L y cy ny ry dy av X ((fun v ad => (none, some (.ref (ad v)), X)) v)) (ml : MLk own idx y cy ny ry 5) (hcl : ∃ q : vw_C, vwCl[ci]? = some q ∧ q.1 = y.cls) (hs : L.2.1 k = (10 + ci, z)) (hk : k < L.1) (hci : ci < 90) (hav : av (jad κ) = [.ref (jad κ k), a1, a2, a3, a4, a5]) (hd : dy + 1 ≤ d) (hny : ny ≤ 20) (hst : (st.map fun v => v.category).sum ≤ 8) (dg : decode cc pc = .ok (.invokevirtual idx, 3)) (kk : ∀ v, ex = some v → g v = some r → J L n κ X (pc + 3) lv (.ref (jad κ v) :: st)) : J L n κ X pc lv (a5 :: a4 :: a3 :: a2 :: a1 :: .ref (jad κ k) :: st) := by
  obtain ⟨v, h1, h2⟩ := g_bd hr
  exact j_callV K (As := [a1, a2, a3, a4, a5]) (rv := some (.ref (jad κ v))) (hc v h1) ml hcl hs hk hci hav rfl hd hny hst rfl dg (kk v h1 h2)
/-- none or a cell: by cases -/
def oC {α : Type} (o : Option Nat) (a : α) (b : Nat → α) : α := match o with
  | none => a
  | some q => b q
theorem j_vO0 (K : jOk n cc own ret d κ) {ex : Option (Option Nat)} {g1 : Option β} {g2 : Nat → Option β} {av : (Nat → Nat) → List Value} {k ci z : Nat} (hr : ex.bind (fun o => oC o g1 g2) = some r) (hc : ∀ v, ex = some v → Cal L y cy ny ry dy av X (fun ad => (none, some (va_rf (v.map ad)), X))) (ml : MLk own idx y cy ny ry 0) (hcl : ∃ q : vw_C, vwCl[ci]? = some q ∧ q.1 = y.cls) (hs : L.2.1 k = (10 + ci, z)) (hk : k < L.1) (hci : ci < 90) (hav : av (jad κ) = [.ref (jad κ k)]) (hd : dy + 1 ≤ d) (hny : ny ≤ 20) (hst : (st.map fun v => v.category).sum ≤ 8) (dg : decode cc pc = .ok (.invokevirtual idx, 3)) (k1 : ex = some none → g1 = some r → J L n κ X (pc + 3) lv (.null :: st)) (k2 : ∀ q, ex = some (some q) → g2 q = some r → J L n κ X (pc + 3) lv (.ref (jad κ q) :: st)) : J L n κ X pc lv (.ref (jad κ k) :: st) := by
  obtain ⟨v, h1, h2⟩ := g_bd hr
  cases v with
  | none => exact j_callV K (As := []) (rv := some .null) (hc none h1) ml hcl hs hk hci hav rfl hd hny hst rfl dg (k1 h1 h2)
  | some q => exact j_callV K (As := []) (rv := some (.ref (jad κ q))) (hc (some q) h1) ml hcl hs hk hci hav rfl hd hny hst rfl dg (k2 q h1 h2)
theorem j_vO1 (K : jOk n cc own ret d κ) {ex : Option (Option Nat)} {g1 : Option β} {g2 : Nat → Option β} {av : (Nat → Nat) → List Value} {k ci z : Nat} {a1 : Value} (hr : ex.bind (fun o => oC o g1 g2) = some r) (hc : ∀ v, ex = some v → Cal L y cy ny ry dy av X (fun ad => (none, some (va_rf (v.map ad)), X))) (ml : MLk own idx y cy ny ry 1) (hcl : ∃ q : vw_C, vwCl[ci]? = some q ∧ q.1 = y.cls) (hs : L.2.1 k = (10 + ci, z)) (hk : k < L.1) (hci : ci < 90) (hav : av (jad κ) = [.ref (jad κ k), a1]) (hd : dy + 1 ≤ d) (hny : ny ≤ 20) (hst : (st.map fun v => v.category).sum ≤ 8) (dg : decode cc pc = .ok (.invokevirtual idx, 3)) (k1 : ex = some none → g1 = some r → J L n κ X (pc + 3) lv (.null :: st)) (k2 : ∀ q, ex = some (some q) → g2 q = some r → J L n κ X (pc + 3) lv (.ref (jad κ q) :: st)) : J L n κ X pc lv (a1 :: .ref (jad κ k) :: st) := by
  obtain ⟨v, h1, h2⟩ := g_bd hr
  cases v with
  | none => exact j_callV K (As := [a1]) (rv := some .null) (hc none h1) ml hcl hs hk hci hav rfl hd hny hst rfl dg (k1 h1 h2)
  | some q => exact j_callV K (As := [a1]) (rv := some (.ref (jad κ q))) (hc (some q) h1) ml hcl hs hk hci hav rfl hd hny hst rfl dg (k2 q h1 h2)
theorem j_vO2 (K : jOk n cc own ret d κ) {ex : Option (Option Nat)} {g1 : Option β} {g2 : Nat → Option β} {av : (Nat → Nat) → List Value} {k ci z : Nat} {a1 a2 : Value} (hr : ex.bind (fun o => oC o g1 g2) = some r) (hc : ∀ v, ex = some v → Cal L y cy ny ry dy av X (fun ad => (none, some (va_rf (v.map ad)), X))) (ml : MLk own idx y cy ny ry 2) (hcl : ∃ q : vw_C, vwCl[ci]? = some q ∧ q.1 = y.cls) (hs : L.2.1 k = (10 + ci, z)) (hk : k < L.1) (hci : ci < 90) (hav : av (jad κ) = [.ref (jad κ k), a1, a2]) (hd : dy + 1 ≤ d) (hny : ny ≤ 20) (hst : (st.map fun v => v.category).sum ≤ 8) (dg : decode cc pc = .ok (.invokevirtual idx, 3)) (k1 : ex = some none → g1 = some r → J L n κ X (pc + 3) lv (.null :: st)) (k2 : ∀ q, ex = some (some q) → g2 q = some r → J L n κ X (pc + 3) lv (.ref (jad κ q) :: st)) : J L n κ X pc lv (a2 :: a1 :: .ref (jad κ k) :: st) := by
  obtain ⟨v, h1, h2⟩ := g_bd hr
  cases v with
  | none => exact j_callV K (As := [a1, a2]) (rv := some .null) (hc none h1) ml hcl hs hk hci hav rfl hd hny hst rfl dg (k1 h1 h2)
  | some q => exact j_callV K (As := [a1, a2]) (rv := some (.ref (jad κ q))) (hc (some q) h1) ml hcl hs hk hci hav rfl hd hny hst rfl dg (k2 q h1 h2)
end JV
end
section
/-! ===== the layout of the class: 176 cells; of the reference: 34 ===== -/
def obX (ad : Nat → Nat) (f : Nat → Int32) (k ci : Nat) : List Value := match ci with
  | 0 => [.ref (ad 46), .ref (ad 47), .ref (ad 48), .int (f 3)]
  | 1 => [.ref (ad (k + 1)), .ref (ad (k + 2)), .ref (ad (k + 3)), .int (f 3), .int (f 4)]
  | 2 => [.ref (ad 1), .ref (ad 11), .ref (ad 36), .ref (ad 37), .ref (ad 38), .ref (ad 39), .ref (ad 40), .ref (ad 41), .ref (ad 42), .ref (ad 43)]
  | 3 => [.ref (ad 50), .ref (ad 51), .ref (ad 52), .int (f 3)]
  | 4 => [.ref (ad 1), .ref (ad 11), .ref (ad 34), .ref (ad 35), .ref (ad 45), .ref (ad 49)]
  | 5 => [.ref (ad 1), .ref (ad 11), .ref (ad 34), .ref (ad 35), .ref (ad 54), .ref (ad 55)]
  | 6 => [.int (f 0), .int (f 1)]
  | 7 => [.ref (ad (k + 1)), .ref (ad (k + 2)), .ref (ad (k + 3)), .int (f 3), .int (f 4), .int (f 5)]
  | 8 => [.ref (ad 1), .ref (ad 12), .int (f 2)]
  | 9 => [.ref (ad 2), .ref (ad 3), .ref (ad 4), .ref (ad 5), .ref (ad 6), .ref (ad 7), .ref (ad 8), .ref (ad 9), .ref (ad 10), .int (f 9)]
  | 10 => [.ref (ad 1), .ref (ad 11), .ref (ad 34), .ref (ad 35), .ref (ad 44), .ref (ad 53), .int (f 6), .int (f 7), .int (f 8)]
  | _ => []
def shX (k : Nat) : Nat × Nat := if k < 56 then ([(20, 0), (19, 0), (0, 60), (2, 60), (1, 60), (1, 60), (1, 60), (0, 60), (0, 60), (0, 60), (156, 60), (18, 0), (3, 3), (17, 0), (0, 8), (0, 8), (11, 0), (0, 60), (1, 60), (1, 60), (17, 0), (0, 8), (0, 8), (11, 0), (0, 60), (1, 60), (1, 60), (17, 0), (0, 8), (0, 8), (11, 0), (0, 60), (1, 60), (1, 60), (16, 0), (12, 0), (1, 60), (0, 60), (2, 60), (0, 60), (0, 60), (216, 60), (1, 60), (1, 60), (14, 0), (10, 0), (0, 60), (0, 60), (1, 60), (13, 0), (0, 60), (0, 4), (0, 4), (15, 0), (0, 60), (0, 20)] : List (Nat × Nat)).getD k (0, 20) else (0, 20)
def LX : Lay := (176, shX, obX)
def obY (ad : Nat → Nat) (f : Nat → Int32) (_ ci : Nat) : List Value := match ci with
  | 11 => [.int (f 0), .int (f 1), .int (f 2), .ref (ad 1), .ref (ad 2), .ref (ad 3), .ref (ad 4), .ref (ad 5), .ref (ad 6), .ref (ad 7), .ref (ad 8), .ref (ad 9), .int (f 12), .ref (ad 10), .ref (ad 11), .ref (ad 12), .ref (ad 13), .ref (ad 14), .ref (ad 15), .ref (ad 16), .ref (ad 17), .ref (ad 18), .ref (ad 19), .ref (ad 20), .ref (ad 21), .ref (ad 22), .ref (ad 23), .ref (ad 24), .int (f 28), .int (f 29), .int (f 30), .ref (ad 25), .ref (ad 26), .ref (ad 27), .int (f 34), .int (f 35), .int (f 36), .int (f 37), .ref (ad 28), .ref (ad 29), .ref (ad 30), .int (f 41), .ref (ad 31), .ref (ad 32), .int (f 44), .ref (ad 33)]
  | _ => []
def shY (k : Nat) : Nat × Nat := ([(21, 0), (1, 60), (1, 60), (0, 60), (2, 60), (0, 60), (0, 60), (0, 1200), (1, 60), (0, 60), (0, 4), (0, 4), (0, 32), (0, 32), (1, 4), (1, 4), (0, 4), (0, 240), (1, 240), (1, 60), (0, 60), (2, 60), (0, 60), (0, 60), (0, 1200), (0, 60), (0, 60), (1, 60), (0, 600), (0, 600), (1, 600), (1, 60), (1, 60), (0, 20)] : List (Nat × Nat)).getD k (0, 0)
def LY : Lay := (34, shY, obY)
def isRt (q : Nat) : Bool := decide (q = 13) || (decide (q = 20) || decide (q = 27))
def isCr (q : Nat) : Bool := decide (q = 16) || (decide (q = 23) || decide (q = 30))
def isI20 (q : Nat) : Bool := decide (q = 55) || (decide (56 ≤ q) && decide (q < 176))
theorem isRt_c {q : Nat} (h : isRt q = true) : q = 13 ∨ q = 20 ∨ q = 27 := by simpa [isRt] using h
theorem isCr_c {q : Nat} (h : isCr q = true) : q = 16 ∨ q = 23 ∨ q = 30 := by simpa [isCr] using h
theorem isI20_c {q : Nat} (h : isI20 q = true) : q = 55 ∨ (56 ≤ q ∧ q < 176) := by simpa [isI20] using h
theorem rtc {q : Nat} (h : isRt q = true) : isCr (q + 3) = true := by rcases isRt_c h with rfl | rfl | rfl <;> rfl
theorem i20 {q : Nat} (h : isI20 q = true) : LX.2.1 q = (0, 20) := by
  rcases isI20_c h with rfl | ⟨h1, h2⟩
  · rfl
  · show shX q = (0, 20)
    unfold shX
    rw [if_neg (by omega)]
theorem i20l {q : Nat} (h : isI20 q = true) : q < LX.1 := by
  show q < 176
  rcases isI20_c h with rfl | ⟨h1, h2⟩ <;> omega
theorem rt0 {q : Nat} (h : isRt q = true) : LX.2.1 q = (17, 0) := by rcases isRt_c h with rfl | rfl | rfl <;> rfl
theorem rt0l {q : Nat} (h : isRt q = true) : q < LX.1 := by rcases isRt_c h with rfl | rfl | rfl <;> exact Nat.le_of_ble_eq_true rfl
theorem rt1 {q : Nat} (h : isRt q = true) : LX.2.1 (q + 1) = (0, 8) := by rcases isRt_c h with rfl | rfl | rfl <;> rfl
theorem rt1l {q : Nat} (h : isRt q = true) : (q + 1) < LX.1 := by rcases isRt_c h with rfl | rfl | rfl <;> exact Nat.le_of_ble_eq_true rfl
theorem rt2 {q : Nat} (h : isRt q = true) : LX.2.1 (q + 2) = (0, 8) := by rcases isRt_c h with rfl | rfl | rfl <;> rfl
theorem rt2l {q : Nat} (h : isRt q = true) : (q + 2) < LX.1 := by rcases isRt_c h with rfl | rfl | rfl <;> exact Nat.le_of_ble_eq_true rfl
theorem cr0 {q : Nat} (h : isCr q = true) : LX.2.1 q = (11, 0) := by rcases isCr_c h with rfl | rfl | rfl <;> rfl
theorem cr0l {q : Nat} (h : isCr q = true) : q < LX.1 := by rcases isCr_c h with rfl | rfl | rfl <;> exact Nat.le_of_ble_eq_true rfl
theorem cr1 {q : Nat} (h : isCr q = true) : LX.2.1 (q + 1) = (0, 60) := by rcases isCr_c h with rfl | rfl | rfl <;> rfl
theorem cr1l {q : Nat} (h : isCr q = true) : (q + 1) < LX.1 := by rcases isCr_c h with rfl | rfl | rfl <;> exact Nat.le_of_ble_eq_true rfl
theorem cr2 {q : Nat} (h : isCr q = true) : LX.2.1 (q + 2) = (1, 60) := by rcases isCr_c h with rfl | rfl | rfl <;> rfl
theorem cr2l {q : Nat} (h : isCr q = true) : (q + 2) < LX.1 := by rcases isCr_c h with rfl | rfl | rfl <;> exact Nat.le_of_ble_eq_true rfl
theorem cr3 {q : Nat} (h : isCr q = true) : LX.2.1 (q + 3) = (1, 60) := by rcases isCr_c h with rfl | rfl | rfl <;> rfl
theorem cr3l {q : Nat} (h : isCr q = true) : (q + 3) < LX.1 := by rcases isCr_c h with rfl | rfl | rfl <;> exact Nat.le_of_ble_eq_true rfl
end
section
/-! ===== what each method of the class and of the reference does, method by method, out of its bytecode by program (gen.py) ===== -/
def b_X0_add_56 (X : JX) (v1 : Int32) (v2 : Int32) : Option JX := (if okI v1 60 = true then nX (pX X (47) (upd (X (47)) v1.toNatClampNeg v2)) fun X3 => some X3 else none)
def f_X0_add (X : JX) (v1 : Int32) (v2 : Int32) : Option JX := (if v1 < 0 then some X else (if v1 < 60 then (if okI v1 60 = true then (if ¬ (X (47) v1.toNatClampNeg) = 0 then b_X0_add_56 X v1 v2 else (if (X (45) 3) < 0 then b_X0_add_56 X v1 v2 else (if 60 ≤ (X (45) 3) then b_X0_add_56 X v1 v2 else (if okI (X (45) 3) 60 = true then nX (pX X (46) (upd (X (46)) (X (45) 3).toNatClampNeg v1)) fun X1 => nX (pX X1 (45) (upd (X1 (45)) 3 ((X1 (45) 3) + (1)))) fun X2 => b_X0_add_56 X2 v1 v2 else none)))) else none) else some X))
def f_X0_count (X : JX) : Option Int32 := some (X (45) 3)
def lb_X0_endWork_2 (rec2 : JX → Int32 → Option JX) (X : JX) (v1 : Int32) : Option JX := (if 60 ≤ v1 then some X else (if okI v1 60 = true then nX (pX X (48) (upd (X (48)) v1.toNatClampNeg (vp_nar .boolean (0)))) fun X1 => nV (v1 + 1) fun t2 => rec2 X1 t2 else none))
def l_X0_endWork_2 : JX → Int32 → Option JX := loop2 (lb_X0_endWork_2 ) 1000
def f_X0_endWork (X : JX) : Option JX := l_X0_endWork_2 X (0)
def b_X0_firstReady_44 (rec2 : Int32 → Option Int32) (X : JX) (v1 : Int32) : Option Int32 := nV (v1 + 1) fun t2 => rec2 t2
def lb_X0_firstReady_2 (X : JX) (rec2 : Int32 → Option Int32) (v1 : Int32) : Option Int32 := (if (X (45) 3) ≤ v1 then some (-1) else (if 60 ≤ v1 then some (-1) else (if okI v1 60 = true then nV (X (46) v1.toNatClampNeg) fun t1 => (if t1 < 0 then b_X0_firstReady_44 rec2 X v1 else (if 60 ≤ t1 then b_X0_firstReady_44 rec2 X v1 else (if okI t1 60 = true then (if ¬ (X (48) t1.toNatClampNeg) = 0 then b_X0_firstReady_44 rec2 X v1 else some t1) else none))) else none)))
def l_X0_firstReady_2 (X : JX) : Int32 → Option Int32 := loop1 (lb_X0_firstReady_2 X) 1000
def f_X0_firstReady (X : JX) : Option Int32 := l_X0_firstReady_2 X (0)
def f_X0_kindOf (X : JX) (v1 : Int32) : Option Int32 := (if v1 < 0 then some (0) else (if 60 ≤ v1 then some (0) else (if okI v1 60 = true then some (X (47) v1.toNatClampNeg) else none)))
def b_X0_takeAway_65 (rec20 : JX → Int32 → Int32 → Option JX) (X : JX) (v1 : Int32) (v2 : Int32) (v3 : Int32) : Option JX := nV (v3 + 1) fun t7 => rec20 X v2 t7
def lb_X0_takeAway_20 (v1 : Int32) (rec20 : JX → Int32 → Int32 → Option JX) (X : JX) (v2 : Int32) (v3 : Int32) : Option JX := (if (X (45) 3) ≤ v3 then nX (pX X (45) (upd (X (45)) 3 v2)) fun X3 => some X3 else (if 60 ≤ v3 then nX (pX X (45) (upd (X (45)) 3 v2)) fun X4 => some X4 else (if okI v3 60 = true then (if (X (46) v3.toNatClampNeg) = v1 then b_X0_takeAway_65 rec20 X v1 v2 v3 else (if 60 ≤ v2 then b_X0_takeAway_65 rec20 X v1 v2 v3 else (if okI v3 60 = true then (if okI v2 60 = true then nX (pX X (46) (upd (X (46)) v2.toNatClampNeg (X (46) v3.toNatClampNeg))) fun X5 => nV (v2 + 1) fun t6 => b_X0_takeAway_65 rec20 X5 v1 t6 v3 else none) else none))) else none)))
def l_X0_takeAway_20 (v1 : Int32) : JX → Int32 → Int32 → Option JX := loop3 (lb_X0_takeAway_20 v1) 1000
def f_X0_takeAway (X : JX) (v1 : Int32) : Option JX := (f_X0_kindOf X v1).bind fun t1 => (if ¬ t1 = 0 then (if okI v1 60 = true then nX (pX X (47) (upd (X (47)) v1.toNatClampNeg (0))) fun X2 => l_X0_takeAway_20 v1 X2 (0) (0) else none) else some X)
def f_X0_putOff (X : JX) (v1 : Int32) : Option JX := (f_X0_takeAway X v1).bind fun X1 => (f_X0_add X1 v1 (1)).bind fun X2 => (if v1 < 0 then some X2 else (if 60 ≤ v1 then some X2 else (if okI v1 60 = true then nX (pX X2 (48) (upd (X2 (48)) v1.toNatClampNeg (vp_nar .boolean (1)))) fun X3 => some X3 else none)))
def f_X1_hasMet (X : JX) (q0 : Nat) (v1 : Int32) : Option Int32 := (if v1 < 0 then some (0) else (if 60 ≤ v1 then some (0) else (if okI v1 60 = true then (if (X (q0 + 3) v1.toNatClampNeg) = 0 then some (0) else some (1)) else none)))
def b_X1_letWait_15 (X : JX) (q0 : Nat) (v1 : Int32) (s0 : Int32) : Option JX := (if s0 = 0 then some X else (if okI v1 60 = true then (if ¬ (X (q0 + 2) v1.toNatClampNeg) = 0 then some X else (if (X q0 3) < 0 then some X else (if 60 ≤ (X q0 3) then some X else (if okI (X q0 3) 60 = true then nX (pX X (q0 + 1) (upd (X (q0 + 1)) (X q0 3).toNatClampNeg v1)) fun X1 => (if okI v1 60 = true then nX (pX X1 (q0 + 2) (upd (X1 (q0 + 2)) v1.toNatClampNeg (vp_nar .boolean (1)))) fun X2 => nX (pX X2 q0 (upd (X2 q0) 3 ((X2 q0 3) + (1)))) fun X3 => some X3 else none) else none)))) else none))
def f_X1_letWait (X : JX) (q0 : Nat) (v1 : Int32) : Option JX := (if v1 < 0 then b_X1_letWait_15 X q0 v1 (0) else (if 60 ≤ v1 then b_X1_letWait_15 X q0 v1 (0) else b_X1_letWait_15 X q0 v1 (1)))
def f_X1_meet (X : JX) (q0 : Nat) (v1 : Int32) : Option JX := (if v1 < 0 then some X else (if 60 ≤ v1 then some X else (if okI v1 60 = true then nX (pX X (q0 + 3) (upd (X (q0 + 3)) v1.toNatClampNeg (vp_nar .boolean (1)))) fun X1 => some X1 else none)))
def lb_X1_startAnew_2 (q0 : Nat) (v1 : Int32) (rec2 : JX → Int32 → Option JX) (X : JX) (v2 : Int32) : Option JX := (if 60 ≤ v2 then nX (pX X q0 (upd (X q0) 3 (0))) fun X1 => (if okB (1) = true then nX (pX X1 q0 (upd (X1 q0) 4 (1))) fun X2 => (f_X1_letWait X2 q0 v1).bind fun X3 => some X3 else none) else (if okI v2 60 = true then nX (pX X (q0 + 2) (upd (X (q0 + 2)) v2.toNatClampNeg (vp_nar .boolean (0)))) fun X4 => (if okI v2 60 = true then nX (pX X4 (q0 + 3) (upd (X4 (q0 + 3)) v2.toNatClampNeg (vp_nar .boolean (0)))) fun X5 => nV (v2 + 1) fun t6 => rec2 X5 t6 else none) else none))
def l_X1_startAnew_2 (q0 : Nat) (v1 : Int32) : JX → Int32 → Option JX := loop2 (lb_X1_startAnew_2 q0 v1) 1000
def f_X1_startAnew (X : JX) (q0 : Nat) (v1 : Int32) : Option JX := l_X1_startAnew_2 q0 v1 X (0)
def b_X1_takeFirst_53 (X : JX) (q0 : Nat) (v1 : Int32) : Option (Int32 × JX) := nX (pX X q0 (upd (X q0) 3 ((X q0 3) - (1)))) fun X4 => (if v1 < 0 then some (v1, X4) else (if 60 ≤ v1 then some (v1, X4) else (if okI v1 60 = true then nX (pX X4 (q0 + 2) (upd (X4 (q0 + 2)) v1.toNatClampNeg (vp_nar .boolean (0)))) fun X5 => some (v1, X5) else none)))
def lb_X1_takeFirst_19 (q0 : Nat) (v1 : Int32) (rec19 : JX → Int32 → Option (Int32 × JX)) (X : JX) (v2 : Int32) : Option (Int32 × JX) := (if (X q0 3) ≤ v2 then b_X1_takeFirst_53 X q0 v1 else (if 60 ≤ v2 then b_X1_takeFirst_53 X q0 v1 else (if okI v2 60 = true then (if okI (v2 - (1)) 60 = true then nX (pX X (q0 + 1) (upd (X (q0 + 1)) (v2 - (1)).toNatClampNeg (X (q0 + 1) v2.toNatClampNeg))) fun X2 => nV (v2 + 1) fun t3 => rec19 X2 t3 else none) else none)))
def l_X1_takeFirst_19 (q0 : Nat) (v1 : Int32) : JX → Int32 → Option (Int32 × JX) := loop2 (lb_X1_takeFirst_19 q0 v1) 1000
def f_X1_takeFirst (X : JX) (q0 : Nat) : Option (Int32 × JX) := (if 1 ≤ (X q0 3) then (if okI (0 : Int32) 60 = true then nV (X (q0 + 1) (0 : Int32).toNatClampNeg) fun t1 => l_X1_takeFirst_19 q0 t1 X (1) else none) else some (-1, X))
def b_X2_count_22 (rec4 : Int32 → Int32 → Option Int32) (X : JX) (v1 : Int32) (v2 : Int32) : Option Int32 := nV (v2 + 1) fun t2 => rec4 v1 t2
def lb_X2_count_4 (X : JX) (rec4 : Int32 → Int32 → Option Int32) (v1 : Int32) (v2 : Int32) : Option Int32 := (if 60 ≤ v2 then some v1 else (if okI v2 60 = true then (if (X (36) v2.toNatClampNeg) = 0 then b_X2_count_22 rec4 X v1 v2 else nV (v1 + 1) fun t1 => b_X2_count_22 rec4 X t1 v2) else none))
def l_X2_count_4 (X : JX) : Int32 → Int32 → Option Int32 := loop2 (lb_X2_count_4 X) 1000
def f_X2_count (X : JX) : Option Int32 := l_X2_count_4 X (0) (0)
def f_X9_parentOf (X : JX) (v1 : Int32) : Option Int32 := (if v1 < 0 then some (-1) else (if 60 ≤ v1 then some (-1) else (if okI v1 60 = true then some (X (2) v1.toNatClampNeg) else none)))
def b_X8_find_36 (rec2 : Int32 → Option (Option Nat)) (X : JX) (v1 : Int32) (v2 : Int32) : Option (Option Nat) := nV (v2 + 1) fun t2 => rec2 t2
def lb_X8_find_2 (X : JX) (v1 : Int32) (rec2 : Int32 → Option (Option Nat)) (v2 : Int32) : Option (Option Nat) := (if (X (11) 2) ≤ v2 then some none else (if 3 ≤ v2 then some none else (if okI v2 3 = true then nN (X (12) v2.toNatClampNeg).toNatClampNeg fun q1 => if isRt q1 = true then (if ¬ (X q1 3) = v1 then b_X8_find_36 rec2 X v1 v2 else some (some q1)) else none else none)))
def l_X8_find_2 (X : JX) (v1 : Int32) : Int32 → Option (Option Nat) := loop1 (lb_X8_find_2 X v1) 1000
def f_X8_find (X : JX) (v1 : Int32) : Option (Option Nat) := l_X8_find_2 X v1 (0)
def lb_X8_holding_4 (X : JX) (rec4 : Int32 → Int32 → Option (Option Nat)) (v2 : Int32) (v3 : Int32) : Option (Option Nat) := (if 60 ≤ v3 then some none else (if v2 = -1 then some none else (f_X8_find X v2).bind fun o1 => oC o1 ((f_X9_parentOf X v2).bind fun t3 => nV (v3 + 1) fun t4 => rec4 t3 t4) (fun q2 => if isRt q2 = true then some (some q2) else none)))
def l_X8_holding_4 (X : JX) : Int32 → Int32 → Option (Option Nat) := loop2 (lb_X8_holding_4 X) 1000
def f_X8_holding (X : JX) (v1 : Int32) : Option (Option Nat) := l_X8_holding_4 X v1 (0)
def f_X8_above (X : JX) (v1 : Int32) : Option (Option Nat) := (f_X9_parentOf X v1).bind fun t1 => (f_X8_holding X t1).bind fun o2 => oC o2 (some none) (fun q3 => if isRt q3 = true then some (some q3) else none)
def f_X9_isFile (X : JX) (v1 : Int32) : Option Int32 := (if v1 < 0 then some (0) else (if 60 ≤ v1 then some (0) else (if okI v1 60 = true then (if (X (5) v1.toNatClampNeg) = 0 then some (0) else (if okI v1 60 = true then (if ¬ (X (4) v1.toNatClampNeg) = 0 then some (0) else some (1)) else none)) else none)))
def f_X2_has (X : JX) (v1 : Int32) : Option Int32 := (if v1 < 0 then some (0) else (if 60 ≤ v1 then some (0) else (if okI v1 60 = true then (if (X (36) v1.toNatClampNeg) = 0 then some (0) else some (1)) else none)))
def f_X9_nameOf (X : JX) (v1 : Int32) : Option Int32 := (if v1 < 0 then (if vp_nar .char (32) = (32) then some (32) else none) else (if 60 ≤ v1 then (if vp_nar .char (32) = (32) then some (32) else none) else (if okI v1 60 = true then (if vp_nar .char (X (3) v1.toNatClampNeg) = (X (3) v1.toNatClampNeg) then some (X (3) v1.toNatClampNeg) else none) else none)))
def f_X9_editionOf (X : JX) (v1 : Int32) : Option Int32 := (if v1 < 0 then some (0) else (if 60 ≤ v1 then some (0) else (if okI v1 60 = true then some (X (8) v1.toNatClampNeg) else none)))
def f_X2_isBehind (X : JX) (v1 : Int32) : Option Int32 := (f_X2_has X v1).bind fun t1 => (if ¬ t1 = 0 then (if okI v1 60 = true then (f_X9_parentOf X v1).bind fun t2 => (if ¬ (X (37) v1.toNatClampNeg) = t2 then some (1) else (if okI v1 60 = true then (f_X9_nameOf X v1).bind fun t3 => (if (X (38) v1.toNatClampNeg) = t3 then (f_X9_isFile X v1).bind fun t4 => (if t4 = 0 then some (0) else (if okI v1 60 = true then (f_X9_editionOf X v1).bind fun t5 => (if (X (39) v1.toNatClampNeg) = t5 then some (0) else some (1)) else none)) else some (1)) else none)) else none) else some (1))
def b_X2_countStale_65 (rec4 : Int32 → Int32 → Option Int32) (X : JX) (v1 : Int32) (v2 : Int32) : Option Int32 := nV (v2 + 1) fun t5 => rec4 v1 t5
def b_X2_countStale_62 (rec4 : Int32 → Int32 → Option Int32) (X : JX) (v1 : Int32) (v2 : Int32) : Option Int32 := nV (v1 + 1) fun t6 => b_X2_countStale_65 rec4 X t6 v2
def b_X2_countStale_26 (rec4 : Int32 → Int32 → Option Int32) (X : JX) (v1 : Int32) (v2 : Int32) (s0 : Int32) : Option Int32 := (if s0 = 0 then (if okI v2 60 = true then (if (X (36) v2.toNatClampNeg) = 0 then b_X2_countStale_65 rec4 X v1 v2 else b_X2_countStale_62 rec4 X v1 v2) else none) else (f_X9_isFile X v2).bind fun t3 => (if t3 = 0 then b_X2_countStale_65 rec4 X v1 v2 else (f_X2_isBehind X v2).bind fun t4 => (if t4 = 0 then b_X2_countStale_65 rec4 X v1 v2 else b_X2_countStale_62 rec4 X v1 v2)))
def lb_X2_countStale_4 (X : JX) (rec4 : Int32 → Int32 → Option Int32) (v1 : Int32) (v2 : Int32) : Option Int32 := (if 60 ≤ v2 then some v1 else (f_X8_above X v2).bind fun o1 => oC o1 (b_X2_countStale_26 rec4 X v1 v2 (0)) (fun q2 => if isRt q2 = true then b_X2_countStale_26 rec4 X v1 v2 (1) else none))
def l_X2_countStale_4 (X : JX) : Int32 → Int32 → Option Int32 := loop2 (lb_X2_countStale_4 X) 1000
def f_X2_countStale (X : JX) : Option Int32 := l_X2_countStale_4 X (0) (0)
def f_X2_editionOf (X : JX) (v1 : Int32) : Option Int32 := (f_X2_has X v1).bind fun t1 => (if t1 = 0 then some (-1) else (if okI v1 60 = true then some (X (39) v1.toNatClampNeg) else none))
def lb_X2_endWork_2 (rec2 : JX → Int32 → Option JX) (X : JX) (v1 : Int32) : Option JX := (if 60 ≤ v1 then some X else (if okI v1 60 = true then nX (pX X (42) (upd (X (42)) v1.toNatClampNeg (vp_nar .boolean (0)))) fun X1 => nV (v1 + 1) fun t2 => rec2 X1 t2 else none))
def l_X2_endWork_2 : JX → Int32 → Option JX := loop2 (lb_X2_endWork_2 ) 1000
def f_X2_endWork (X : JX) : Option JX := l_X2_endWork_2 X (0)
def f_X2_hasGotEdition (X : JX) (v1 : Int32) : Option Int32 := (if v1 < 0 then some (0) else (if 60 ≤ v1 then some (0) else (if okI v1 60 = true then (if (X (42) v1.toNatClampNeg) = 0 then some (0) else some (1)) else none)))
def lb_X2_isBelow_5 (X : JX) (v2 : Int32) (rec5 : Int32 → Int32 → Option Int32) (v3 : Int32) (v4 : Int32) : Option Int32 := (if 60 ≤ v4 then some (0) else (f_X2_has X v3).bind fun t1 => (if t1 = 0 then some (0) else (if okI v3 60 = true then nV (X (37) v3.toNatClampNeg) fun t2 => (if ¬ t2 = v2 then (f_X8_find X t2).bind fun o3 => oC o3 (nV (v4 + 1) fun t5 => rec5 t2 t5) (fun q4 => if isRt q4 = true then some (0) else none) else some (1)) else none)))
def l_X2_isBelow_5 (X : JX) (v2 : Int32) : Int32 → Int32 → Option Int32 := loop2 (lb_X2_isBelow_5 X v2) 1000
def f_X2_isBelow (X : JX) (v1 : Int32) (v2 : Int32) : Option Int32 := l_X2_isBelow_5 X v2 v1 (0)
def f_X2_keepEdition (X : JX) (v1 : Int32) (v2 : Int32) : Option JX := (if v1 < 0 then some X else (if 60 ≤ v1 then some X else (f_X9_editionOf X v1).bind fun t1 => (if okI v1 60 = true then nX (pX X (39) (upd (X (39)) v1.toNatClampNeg t1)) fun X2 => (if okI v1 60 = true then nX (pX X2 (40) (upd (X2 (40)) v1.toNatClampNeg v2)) fun X3 => (if okI v1 60 = true then nX (pX X3 (42) (upd (X3 (42)) v1.toNatClampNeg (vp_nar .boolean (1)))) fun X4 => some X4 else none) else none) else none)))
def f_X2_keepPlace (X : JX) (v1 : Int32) : Option JX := (if v1 < 0 then some X else (if 60 ≤ v1 then some X else (if okI v1 60 = true then nX (pX X (36) (upd (X (36)) v1.toNatClampNeg (vp_nar .boolean (1)))) fun X1 => (f_X9_parentOf X1 v1).bind fun t2 => (if okI v1 60 = true then nX (pX X1 (37) (upd (X1 (37)) v1.toNatClampNeg t2)) fun X3 => (f_X9_nameOf X3 v1).bind fun t4 => (if okI v1 60 = true then nX (pX X3 (38) (upd (X3 (38)) v1.toNatClampNeg (vp_nar .char t4))) fun X5 => some X5 else none) else none) else none)))
def f_X2_lengthOf (X : JX) (v1 : Int32) : Option Int32 := (f_X2_has X v1).bind fun t1 => (if t1 = 0 then some (0) else (if okI v1 60 = true then some (X (40) v1.toNatClampNeg) else none))
def b_X2_takeAway_91 (rec62 : JX → Int32 → Option JX) (X : JX) (v3 : Int32) : Option JX := nV (v3 + 1) fun t8 => rec62 X t8
def lb_X2_takeAway_62 (rec62 : JX → Int32 → Option JX) (X : JX) (v3 : Int32) : Option JX := (if 60 ≤ v3 then some X else (if okI v3 60 = true then (if (X (43) v3.toNatClampNeg) = 0 then b_X2_takeAway_91 rec62 X v3 else (if okI v3 60 = true then nX (pX X (36) (upd (X (36)) v3.toNatClampNeg (vp_nar .boolean (0)))) fun X4 => (if okI v3 60 = true then nX (pX X4 (42) (upd (X4 (42)) v3.toNatClampNeg (vp_nar .boolean (0)))) fun X5 => b_X2_takeAway_91 rec62 X5 v3 else none) else none)) else none))
def l_X2_takeAway_62 : JX → Int32 → Option JX := loop2 (lb_X2_takeAway_62 ) 1000
def b_X2_takeAway_53 (rec19 : JX → Int32 → Option JX) (X : JX) (v1 : Int32) (v2 : Int32) (v3 : Int32) (s0 : Int32) (s1 : Int32) : Option JX := (if okI s1 60 = true then nX (pX X (43) (upd (X (43)) s1.toNatClampNeg (vp_nar .boolean s0))) fun X6 => nV (v3 + 1) fun t7 => rec19 X6 t7 else none)
def lb_X2_takeAway_19 (v1 : Int32) (v2 : Int32) (rec19 : JX → Int32 → Option JX) (X : JX) (v3 : Int32) : Option JX := (if 60 ≤ v3 then l_X2_takeAway_62 X (0) else (if v3 = v1 then b_X2_takeAway_53 rec19 X v1 v2 v3 (1) v3 else (if ¬ v2 = 0 then b_X2_takeAway_53 rec19 X v1 v2 v3 (0) v3 else (f_X2_isBelow X v3 v1).bind fun t3 => (if t3 = 0 then b_X2_takeAway_53 rec19 X v1 v2 v3 (0) v3 else b_X2_takeAway_53 rec19 X v1 v2 v3 (1) v3))))
def l_X2_takeAway_19 (v1 : Int32) (v2 : Int32) : JX → Int32 → Option JX := loop2 (lb_X2_takeAway_19 v1 v2) 1000
def b_X2_takeAway_16 (X : JX) (v1 : Int32) (s0 : Int32) : Option JX := l_X2_takeAway_19 v1 s0 X (0)
def f_X2_takeAway (X : JX) (v1 : Int32) : Option JX := (f_X8_find X v1).bind fun o1 => oC o1 (b_X2_takeAway_16 X v1 (0)) (fun q2 => if isRt q2 = true then b_X2_takeAway_16 X v1 (1) else none)
def f_X2_wordsOf (X : JX) (v1 : Int32) : Option Nat := (if v1 < 0 then (if okI (0 : Int32) 60 = true then nN (116 + (0 : Int32).toNatClampNeg) fun q1 => if isI20 q1 = true then some q1 else none else none) else (if 60 ≤ v1 then (if okI (0 : Int32) 60 = true then nN (116 + (0 : Int32).toNatClampNeg) fun q2 => if isI20 q2 = true then some q2 else none else none) else (if okI v1 60 = true then nN (116 + v1.toNatClampNeg) fun q3 => if isI20 q3 = true then some q3 else none else none)))
def b_X3_addSegment_75 (rec38 : JX → Int32 → Option JX) (X : JX) (v2 : Int32) : Option JX := nV (v2 + 1) fun t7 => rec38 X t7
def lb_X3_addSegment_38 (rec38 : JX → Int32 → Option JX) (X : JX) (v2 : Int32) : Option JX := (if 60 ≤ v2 then nX (pX X (49) (upd (X (49)) 3 ((X (49) 3) + (1)))) fun X3 => some X3 else (f_X2_hasGotEdition X v2).bind fun t4 => (if t4 = 0 then b_X3_addSegment_75 rec38 X v2 else (if okI v2 60 = true then nX (pX X (50) (upd (X (50)) v2.toNatClampNeg (X (49) 3))) fun X5 => (if okI (X5 (49) 3) 4 = true then (if okI (X5 (49) 3) 4 = true then nX (pX X5 (51) (upd (X5 (51)) (X5 (49) 3).toNatClampNeg ((X5 (51) (X5 (49) 3).toNatClampNeg) + (1)))) fun X6 => b_X3_addSegment_75 rec38 X6 v2 else none) else none) else none)))
def l_X3_addSegment_38 : JX → Int32 → Option JX := loop2 (lb_X3_addSegment_38 ) 1000
def f_X3_addSegment (X : JX) : Option JX := (if (X (49) 3) < 0 then some X else (if (X (49) 3) ≤ 3 then (if okI (X (49) 3) 4 = true then nX (pX X (51) (upd (X (51)) (X (49) 3).toNatClampNeg (0))) fun X1 => (if okI (X1 (49) 3) 4 = true then nX (pX X1 (52) (upd (X1 (52)) (X1 (49) 3).toNatClampNeg (0))) fun X2 => l_X3_addSegment_38 X2 (0) else none) else none) else some X))
def b_X3_bury_36 (X : JX) (v1 : Int32) : Option JX := (if okI v1 60 = true then nX (pX X (50) (upd (X (50)) v1.toNatClampNeg (-1))) fun X4 => some X4 else none)
def f_X3_bury (X : JX) (v1 : Int32) : Option JX := (if okI v1 60 = true then nV (X (50) v1.toNatClampNeg) fun t1 => (if t1 < 0 then b_X3_bury_36 X v1 else (if 3 < t1 then b_X3_bury_36 X v1 else (if okI t1 4 = true then (if okI t1 4 = true then nX (pX X (51) (upd (X (51)) t1.toNatClampNeg ((X (51) t1.toNatClampNeg) - (1)))) fun X2 => (if okI t1 4 = true then (if okI t1 4 = true then nX (pX X2 (52) (upd (X2 (52)) t1.toNatClampNeg ((X2 (52) t1.toNatClampNeg) + (1)))) fun X3 => b_X3_bury_36 X3 v1 else none) else none) else none) else none))) else none)
def b_X3_close_79 (rec53 : JX → Int32 → Option JX) (X : JX) (v1 : Int32) (v2 : Int32) : Option JX := nV (v2 + 1) fun t6 => rec53 X t6
def lb_X3_close_53 (v1 : Int32) (rec53 : JX → Int32 → Option JX) (X : JX) (v2 : Int32) : Option JX := (if 60 ≤ v2 then nX (pX X (49) (upd (X (49)) 3 ((X (49) 3) - (1)))) fun X4 => some X4 else (if okI v2 60 = true then (if (X (50) v2.toNatClampNeg) ≤ v1 then b_X3_close_79 rec53 X v1 v2 else (if okI v2 60 = true then (if okI v2 60 = true then nX (pX X (50) (upd (X (50)) v2.toNatClampNeg ((X (50) v2.toNatClampNeg) - (1)))) fun X5 => b_X3_close_79 rec53 X5 v1 v2 else none) else none)) else none))
def l_X3_close_53 (v1 : Int32) : JX → Int32 → Option JX := loop2 (lb_X3_close_53 v1) 1000
def b_X3_close_51 (X : JX) (v1 : Int32) : Option JX := l_X3_close_53 v1 X (0)
def lb_X3_close_2 (v1 : Int32) (rec2 : JX → Int32 → Option JX) (X : JX) (v2 : Int32) : Option JX := (if (X (49) 3) ≤ (v2 + (1)) then b_X3_close_51 X v1 else (if 3 ≤ v2 then b_X3_close_51 X v1 else (if okI (v2 + (1)) 4 = true then (if okI v2 4 = true then nX (pX X (51) (upd (X (51)) v2.toNatClampNeg (X (51) (v2 + (1)).toNatClampNeg))) fun X1 => (if okI (v2 + (1)) 4 = true then (if okI v2 4 = true then nX (pX X1 (52) (upd (X1 (52)) v2.toNatClampNeg (X1 (52) (v2 + (1)).toNatClampNeg))) fun X2 => nV (v2 + 1) fun t3 => rec2 X2 t3 else none) else none) else none) else none)))
def l_X3_close_2 (v1 : Int32) : JX → Int32 → Option JX := loop2 (lb_X3_close_2 v1) 1000
def f_X3_close (X : JX) (v1 : Int32) : Option JX := l_X3_close_2 v1 X v1
def f_X3_count (X : JX) : Option Int32 := some (X (49) 3)
def lb_X3_countBuried_4 (X : JX) (rec4 : Int32 → Int32 → Option Int32) (v1 : Int32) (v2 : Int32) : Option Int32 := (if (X (49) 3) ≤ v2 then some v1 else (if 3 < v2 then some v1 else (if okI v2 4 = true then nV (v1 + (X (52) v2.toNatClampNeg)) fun t1 => nV (v2 + 1) fun t2 => rec4 t1 t2 else none)))
def l_X3_countBuried_4 (X : JX) : Int32 → Int32 → Option Int32 := loop2 (lb_X3_countBuried_4 X) 1000
def f_X3_countBuried (X : JX) : Option Int32 := l_X3_countBuried_4 X (0) (0)
def b_X3_smallestPair_70 (rec6 : Int32 → Int32 → Int32 → Option Int32) (X : JX) (v1 : Int32) (v2 : Int32) (v3 : Int32) : Option Int32 := nV (v3 + 1) fun t3 => rec6 v1 v2 t3
def b_X3_smallestPair_65 (rec6 : Int32 → Int32 → Int32 → Option Int32) (X : JX) (v3 : Int32) (v4 : Int32) : Option Int32 := b_X3_smallestPair_70 rec6 X v3 v4 v3
def lb_X3_smallestPair_6 (X : JX) (rec6 : Int32 → Int32 → Int32 → Option Int32) (v1 : Int32) (v2 : Int32) (v3 : Int32) : Option Int32 := (if (X (49) 3) ≤ (v3 + (1)) then some v1 else (if 3 ≤ v3 then some v1 else (if okI v3 4 = true then (if okI v3 4 = true then (if okI (v3 + (1)) 4 = true then (if okI (v3 + (1)) 4 = true then nV ((((X (51) v3.toNatClampNeg) + (X (52) v3.toNatClampNeg)) + (X (51) (v3 + (1)).toNatClampNeg)) + (X (52) (v3 + (1)).toNatClampNeg)) fun t2 => (if v1 = -1 then b_X3_smallestPair_65 rec6 X v3 t2 else (if v2 ≤ t2 then b_X3_smallestPair_70 rec6 X v1 v2 v3 else b_X3_smallestPair_65 rec6 X v3 t2)) else none) else none) else none) else none)))
def l_X3_smallestPair_6 (X : JX) : Int32 → Int32 → Int32 → Option Int32 := loop3 (lb_X3_smallestPair_6 X) 1000
def f_X3_smallestPair (X : JX) : Option Int32 := nV (-1) fun t1 => l_X3_smallestPair_6 X t1 (0) (0)
def b_X3_joinWithNext_71 (rec46 : JX → Int32 → Option JX) (X : JX) (v1 : Int32) (v2 : Int32) : Option JX := nV (v2 + 1) fun t5 => rec46 X t5
def lb_X3_joinWithNext_46 (v1 : Int32) (rec46 : JX → Int32 → Option JX) (X : JX) (v2 : Int32) : Option JX := (if 60 ≤ v2 then (f_X3_close X (v1 + (1))).bind fun X3 => some X3 else (if okI v2 60 = true then (if ¬ (X (50) v2.toNatClampNeg) = (v1 + (1)) then b_X3_joinWithNext_71 rec46 X v1 v2 else (if okI v2 60 = true then nX (pX X (50) (upd (X (50)) v2.toNatClampNeg v1)) fun X4 => b_X3_joinWithNext_71 rec46 X4 v1 v2 else none)) else none))
def l_X3_joinWithNext_46 (v1 : Int32) : JX → Int32 → Option JX := loop2 (lb_X3_joinWithNext_46 v1) 1000
def f_X3_joinWithNext (X : JX) (v1 : Int32) : Option JX := (if v1 < 0 then some X else (if 3 ≤ v1 then some X else (if (v1 + (1)) < (X (49) 3) then (if okI v1 4 = true then (if okI (v1 + (1)) 4 = true then (if okI v1 4 = true then nX (pX X (51) (upd (X (51)) v1.toNatClampNeg ((X (51) v1.toNatClampNeg) + (X (51) (v1 + (1)).toNatClampNeg)))) fun X1 => (if okI v1 4 = true then nX (pX X1 (52) (upd (X1 (52)) v1.toNatClampNeg (0))) fun X2 => l_X3_joinWithNext_46 v1 X2 (0) else none) else none) else none) else none) else some X)))
def lb_X3_endWork_76 (rec76 : JX → Int32 → Option JX) (X : JX) (v2 : Int32) : Option JX := (if 3 ≤ v2 then some X else (if (X (49) 3) ≤ 3 then some X else (f_X3_smallestPair X ).bind fun t7 => (f_X3_joinWithNext X t7).bind fun X8 => nV (v2 + 1) fun t9 => rec76 X8 t9))
def l_X3_endWork_76 : JX → Int32 → Option JX := loop2 (lb_X3_endWork_76 ) 1000
def b_X3_endWork_68 (rec42 : JX → Int32 → Option JX) (X : JX) (v2 : Int32) : Option JX := nV (v2 + (-1)) fun t10 => rec42 X t10
def lb_X3_endWork_42 (rec42 : JX → Int32 → Option JX) (X : JX) (v2 : Int32) : Option JX := (if v2 < 0 then l_X3_endWork_76 X (0) else (if (X (49) 3) ≤ v2 then b_X3_endWork_68 rec42 X v2 else (if okI v2 4 = true then (if ¬ (X (51) v2.toNatClampNeg) = 0 then b_X3_endWork_68 rec42 X v2 else (f_X3_close X v2).bind fun X4 => b_X3_endWork_68 rec42 X4 v2) else none)))
def l_X3_endWork_42 : JX → Int32 → Option JX := loop2 (lb_X3_endWork_42 ) 1000
def b_X3_endWork_29 (rec2 : JX → Int32 → Option JX) (X : JX) (v2 : Int32) : Option JX := nV (v2 + 1) fun t6 => rec2 X t6
def b_X3_endWork_24 (rec2 : JX → Int32 → Option JX) (X : JX) (v2 : Int32) : Option JX := (f_X3_bury X v2).bind fun X5 => b_X3_endWork_29 rec2 X5 v2
def lb_X3_endWork_2 (rec2 : JX → Int32 → Option JX) (X : JX) (v2 : Int32) : Option JX := (if 60 ≤ v2 then (f_X3_addSegment X ).bind fun X1 => l_X3_endWork_42 X1 (3) else (f_X2_hasGotEdition X v2).bind fun t2 => (if ¬ t2 = 0 then b_X3_endWork_24 rec2 X v2 else (f_X2_has X v2).bind fun t3 => (if ¬ t3 = 0 then b_X3_endWork_29 rec2 X v2 else b_X3_endWork_24 rec2 X v2)))
def l_X3_endWork_2 : JX → Int32 → Option JX := loop2 (lb_X3_endWork_2 ) 1000
def f_X3_endWork (X : JX) : Option JX := l_X3_endWork_2 X (0)
def f_X9_isLocked (X : JX) (v1 : Int32) : Option Int32 := (if v1 < 0 then some (0) else (if 60 ≤ v1 then some (0) else (if okI v1 60 = true then (if (X (6) v1.toNatClampNeg) = 0 then some (0) else some (1)) else none)))
def f_X9_lengthOf (X : JX) (v1 : Int32) : Option Int32 := (if v1 < 0 then some (0) else (if 60 ≤ v1 then some (0) else (if okI v1 60 = true then some (X (9) v1.toNatClampNeg) else none)))
def f_X9_textOf (X : JX) (v1 : Int32) : Option Nat := (if v1 < 0 then (if okI (0 : Int32) 60 = true then nN (56 + (0 : Int32).toNatClampNeg) fun q1 => if isI20 q1 = true then some q1 else none else none) else (if 60 ≤ v1 then (if okI (0 : Int32) 60 = true then nN (56 + (0 : Int32).toNatClampNeg) fun q2 => if isI20 q2 = true then some q2 else none else none) else (if okI v1 60 = true then nN (56 + v1.toNatClampNeg) fun q3 => if isI20 q3 = true then some q3 else none else none)))
def b_X6_endOfWhole_65 (rec14 : Int32 → Int32 → Int32 → Option Int32) (X : JX) (q0 : Nat) (v2 : Int32) (v3 : Int32) (v4 : Int32) : Option Int32 := nV (v4 + (-1)) fun t6 => rec14 v2 v3 t6
def b_X6_endOfWhole_55 (rec14 : Int32 → Int32 → Int32 → Option Int32) (X : JX) (q0 : Nat) (v2 : Int32) (v3 : Int32) (v4 : Int32) (v5 : Int32) : Option Int32 := (if ¬ v5 = -2 then b_X6_endOfWhole_65 rec14 X q0 v2 v3 v4 else b_X6_endOfWhole_65 rec14 X q0 v4 v3 v4)
def lb_X6_endOfWhole_14 (X : JX) (q0 : Nat) (rec14 : Int32 → Int32 → Int32 → Option Int32) (v2 : Int32) (v3 : Int32) (v4 : Int32) : Option Int32 := (if v4 < 0 then some v2 else (if okI v4 20 = true then nV (X q0 v4.toNatClampNeg) fun t3 => (if ¬ t3 = -3 then (if ¬ t3 = -2 then b_X6_endOfWhole_55 rec14 X q0 v2 v3 v4 t3 else (if v3 ≤ 0 then b_X6_endOfWhole_55 rec14 X q0 v2 v3 v4 t3 else nV (v3 + (-1)) fun t4 => b_X6_endOfWhole_65 rec14 X q0 v2 t4 v4)) else nV (v3 + 1) fun t5 => b_X6_endOfWhole_65 rec14 X q0 v2 t5 v4) else none))
def l_X6_endOfWhole_14 (X : JX) (q0 : Nat) : Int32 → Int32 → Int32 → Option Int32 := loop3 (lb_X6_endOfWhole_14 X q0) 1000
def f_X6_endOfWhole (X : JX) (q0 : Nat) (v1 : Int32) : Option Int32 := nV (if (20) < v1 then (20) else v1) fun t1 => nV (t1 - (1)) fun t2 => l_X6_endOfWhole_14 X q0 t1 (0) t2
def b_X6_takeWords_103 (rec16 : JX → Int32 → Int32 → Int32 → Option (Int32 × JX)) (X : JX) (q1 : Nat) (q3 : Nat) (v4 : Int32) (v5 : Int32) (v6 : Int32) (v7 : Int32) : Option (Int32 × JX) := nV (v7 + 1) fun t7 => rec16 X v5 v6 t7
def lb_X6_takeWords_16 (q1 : Nat) (q3 : Nat) (v4 : Int32) (rec16 : JX → Int32 → Int32 → Int32 → Option (Int32 × JX)) (X : JX) (v5 : Int32) (v6 : Int32) (v7 : Int32) : Option (Int32 × JX) := (if v4 ≤ v7 then some (v5, X) else (if 20 ≤ v7 then some (v5, X) else (if okI v7 20 = true then nV (X q1 v7.toNatClampNeg) fun t2 => (if ¬ t2 = -2 then (if ¬ t2 = -3 then (if (X (34) 0) < v6 then b_X6_takeWords_103 rec16 X q1 q3 v4 v5 v6 v7 else (if (X (34) 1) ≤ v5 then b_X6_takeWords_103 rec16 X q1 q3 v4 v5 v6 v7 else (if 20 ≤ v5 then b_X6_takeWords_103 rec16 X q1 q3 v4 v5 v6 v7 else (if okI v5 20 = true then nX (pX X q3 (upd (X q3) v5.toNatClampNeg t2)) fun X3 => nV (v5 + 1) fun t4 => b_X6_takeWords_103 rec16 X3 q1 q3 v4 t4 v6 v7 else none)))) else nV (if (0) < (v6 - (1)) then (v6 - (1)) else (0)) fun t5 => b_X6_takeWords_103 rec16 X q1 q3 v4 v5 t5 v7) else nV (v6 + 1) fun t6 => b_X6_takeWords_103 rec16 X q1 q3 v4 v5 t6 v7) else none)))
def l_X6_takeWords_16 (q1 : Nat) (q3 : Nat) (v4 : Int32) : JX → Int32 → Int32 → Int32 → Option (Int32 × JX) := loop4 (lb_X6_takeWords_16 q1 q3 v4) 1000
def f_X6_takeWords (X : JX) (q1 : Nat) (v2 : Int32) (q3 : Nat) : Option (Int32 × JX) := (f_X6_endOfWhole X q1 v2).bind fun t1 => l_X6_takeWords_16 q1 q3 t1 X (0) (0) (0)
def b_X4_lookAtFile_101 (X : JX) (v1 : Int32) (v3 : Int32) : Option (Int32 × JX) := (f_X2_keepPlace X v1).bind fun X11 => (f_X0_takeAway X11 v1).bind fun X12 => some (v3, X12)
def f_X4_lookAtFile (X : JX) (v1 : Int32) (v2 : Int32) : Option (Int32 × JX) := (f_X9_isLocked X v1).bind fun t1 => (if t1 = 0 then (f_X2_editionOf X v1).bind fun t2 => (f_X9_editionOf X v1).bind fun t3 => (if t2 = t3 then b_X4_lookAtFile_101 X v1 (1) else (f_X9_lengthOf X v1).bind fun t4 => nV ((1) + t4) fun t5 => (if t5 ≤ v2 then (f_X9_textOf X v1).bind fun q6 => if isI20 q6 = true then (f_X2_wordsOf X v1).bind fun q7 => if isI20 q7 = true then (f_X6_takeWords X q6 t4 q7).bind fun t8 => (f_X2_keepEdition t8.2 v1 t8.1).bind fun X9 => b_X4_lookAtFile_101 X9 v1 t5 else none else none else some (0, X))) else (f_X0_putOff X v1).bind fun X10 => some (1, X10))
def b_X4_lookAtFolder_37 (rec10 : JX → Int32 → Option JX) (X : JX) (v1 : Int32) (v2 : Int32) : Option JX := nV (v2 + 1) fun t4 => rec10 X t4
def lb_X4_lookAtFolder_10 (v1 : Int32) (rec10 : JX → Int32 → Option JX) (X : JX) (v2 : Int32) : Option JX := (if 60 ≤ v2 then some X else (f_X9_parentOf X v2).bind fun t2 => (if ¬ t2 = v1 then b_X4_lookAtFolder_37 rec10 X v1 v2 else (f_X0_add X v2 (1)).bind fun X3 => b_X4_lookAtFolder_37 rec10 X3 v1 v2))
def l_X4_lookAtFolder_10 (v1 : Int32) : JX → Int32 → Option JX := loop2 (lb_X4_lookAtFolder_10 v1) 1000
def f_X4_lookAtFolder (X : JX) (v1 : Int32) : Option JX := (f_X2_keepPlace X v1).bind fun X1 => l_X4_lookAtFolder_10 v1 X1 (0)
def b_X4_act_63 (X : JX) (v1 : Int32) (v3 : Int32) (v4 : Int32) : Option (Int32 × JX) := (f_X0_takeAway X v1).bind fun X6 => (if ¬ v4 = 0 then (if v3 = 0 then (f_X0_add X6 v1 (1)).bind fun X7 => some (1, X7) else (f_X4_lookAtFolder X6 v1).bind fun X8 => some (1, X8)) else (f_X2_takeAway X6 v1).bind fun X9 => some (1, X9))
def b_X4_act_34 (X : JX) (v1 : Int32) (v2 : Int32) (v3 : Int32) (s0 : Int32) : Option (Int32 × JX) := (if v3 = 0 then b_X4_act_63 X v1 v3 s0 else (if s0 = 0 then b_X4_act_63 X v1 v3 s0 else (f_X9_isFile X v1).bind fun t4 => (if t4 = 0 then b_X4_act_63 X v1 v3 s0 else (f_X4_lookAtFile X v1 v2).bind fun t5 => some (t5.1, t5.2))))
def b_X4_act_17 (X : JX) (v1 : Int32) (v2 : Int32) (s0 : Int32) : Option (Int32 × JX) := (f_X8_above X v1).bind fun o2 => oC o2 (b_X4_act_34 X v1 v2 s0 (0)) (fun q3 => if isRt q3 = true then b_X4_act_34 X v1 v2 s0 (1) else none)
def f_X4_act (X : JX) (v1 : Int32) (v2 : Int32) : Option (Int32 × JX) := (f_X0_kindOf X v1).bind fun t1 => (if ¬ t1 = 1 then b_X4_act_17 X v1 v2 (0) else b_X4_act_17 X v1 v2 (1))
def f_X4_countActs (X : JX) : Option Int32 := (f_X0_count X ).bind fun t1 => some t1
def f_X4_countDead (X : JX) : Option Int32 := (f_X3_countBuried X ).bind fun t1 => some t1
def f_X4_countSegments (X : JX) : Option Int32 := (f_X3_count X ).bind fun t1 => some t1
def lb_X9_isBelow_9 (X : JX) (v2 : Int32) (rec9 : Int32 → Int32 → Option Int32) (v3 : Int32) (v4 : Int32) : Option Int32 := (if 60 ≤ v4 then some (0) else (if v3 = -1 then some (0) else (if ¬ v3 = v2 then (f_X9_parentOf X v3).bind fun t2 => nV (v4 + 1) fun t3 => rec9 t2 t3 else some (1))))
def l_X9_isBelow_9 (X : JX) (v2 : Int32) : Int32 → Int32 → Option Int32 := loop2 (lb_X9_isBelow_9 X v2) 1000
def f_X9_isBelow (X : JX) (v1 : Int32) (v2 : Int32) : Option Int32 := (f_X9_parentOf X v1).bind fun t1 => l_X9_isBelow_9 X v2 t1 (0)
def f_X9_isFolder (X : JX) (v1 : Int32) : Option Int32 := (if v1 < 0 then some (0) else (if 60 ≤ v1 then some (0) else (if okI v1 60 = true then (if (X (5) v1.toNatClampNeg) = 0 then some (0) else (if okI v1 60 = true then (if (X (4) v1.toNatClampNeg) = 0 then some (0) else some (1)) else none)) else none)))
def b_X4_meetAllIn_66 (rec2 : JX → Int32 → Option JX) (X : JX) (v1 : Int32) (q2 : Nat) (v3 : Int32) : Option JX := nV (v3 + 1) fun t5 => rec2 X t5
def b_X4_meetAllIn_50 (rec2 : JX → Int32 → Option JX) (X : JX) (v1 : Int32) (q2 : Nat) (v3 : Int32) : Option JX := (f_X9_isFolder X v3).bind fun t6 => (if t6 = 0 then b_X4_meetAllIn_66 rec2 X v1 q2 v3 else (f_X1_letWait X q2 v3).bind fun X7 => b_X4_meetAllIn_66 rec2 X7 v1 q2 v3)
def lb_X4_meetAllIn_2 (v1 : Int32) (q2 : Nat) (rec2 : JX → Int32 → Option JX) (X : JX) (v3 : Int32) : Option JX := (if 60 ≤ v3 then some X else (if v1 = -1 then b_X4_meetAllIn_66 rec2 X v1 q2 v3 else (f_X9_parentOf X v3).bind fun t1 => (if ¬ t1 = v1 then b_X4_meetAllIn_66 rec2 X v1 q2 v3 else (f_X1_meet X q2 v3).bind fun X2 => (f_X2_isBehind X2 v3).bind fun t3 => (if t3 = 0 then b_X4_meetAllIn_50 rec2 X2 v1 q2 v3 else (f_X0_add X2 v3 (1)).bind fun X4 => b_X4_meetAllIn_50 rec2 X4 v1 q2 v3))))
def l_X4_meetAllIn_2 (v1 : Int32) (q2 : Nat) : JX → Int32 → Option JX := loop2 (lb_X4_meetAllIn_2 v1 q2) 1000
def f_X4_meetAllIn (X : JX) (v1 : Int32) (q2 : Nat) : Option JX := l_X4_meetAllIn_2 v1 q2 X (0)
def b_X4_lookAtUnmet_36 (rec2 : JX → Int32 → Option JX) (X : JX) (q1 : Nat) (v2 : Int32) : Option JX := nV (v2 + 1) fun t4 => rec2 X t4
def lb_X4_lookAtUnmet_2 (q1 : Nat) (rec2 : JX → Int32 → Option JX) (X : JX) (v2 : Int32) : Option JX := (if 60 ≤ v2 then some X else (f_X2_has X v2).bind fun t1 => (if t1 = 0 then b_X4_lookAtUnmet_36 rec2 X q1 v2 else (f_X1_hasMet X q1 v2).bind fun t2 => (if ¬ t2 = 0 then b_X4_lookAtUnmet_36 rec2 X q1 v2 else (f_X0_add X v2 (1)).bind fun X3 => b_X4_lookAtUnmet_36 rec2 X3 q1 v2)))
def l_X4_lookAtUnmet_2 (q1 : Nat) : JX → Int32 → Option JX := loop2 (lb_X4_lookAtUnmet_2 q1) 1000
def f_X4_lookAtUnmet (X : JX) (q1 : Nat) : Option JX := l_X4_lookAtUnmet_2 q1 X (0)
def b_X4_crawlOn_39 (X : JX) (q2 : Nat) : Option JX := (if ¬ (X q2 3) = 0 then some X else (if okB (0) = true then nX (pX X q2 (upd (X q2) 4 (0))) fun X4 => (f_X4_lookAtUnmet X4 q2).bind fun X5 => some X5 else none))
def b_X4_crawlOn_33 (X : JX) (q2 : Nat) (v3 : Int32) : Option JX := (f_X4_meetAllIn X v3 q2).bind fun X3 => b_X4_crawlOn_39 X3 q2
def f_X4_crawlOn (X : JX) (q1 : Nat) : Option JX := (f_X1_takeFirst X (q1 + 3)).bind fun t1 => (if t1.1 = (t1.2 q1 3) then b_X4_crawlOn_33 t1.2 (q1 + 3) t1.1 else (f_X9_isBelow t1.2 t1.1 (t1.2 q1 3)).bind fun t2 => (if t2 = 0 then b_X4_crawlOn_39 t1.2 (q1 + 3) else b_X4_crawlOn_33 t1.2 (q1 + 3) t1.1))
def f_X7_hasNotices (X : JX) (q0 : Nat) : Option Int32 := (if (X q0 4) ≤ 0 then some (0) else some (1))
def b_X8_firstNoisy_42 (rec2 : Int32 → Option (Option Nat)) (X : JX) (v1 : Int32) : Option (Option Nat) := nV (v1 + 1) fun t3 => rec2 t3
def lb_X8_firstNoisy_2 (X : JX) (rec2 : Int32 → Option (Option Nat)) (v1 : Int32) : Option (Option Nat) := (if (X (11) 2) ≤ v1 then some none else (if 3 ≤ v1 then some none else (if okI v1 3 = true then nN (X (12) v1.toNatClampNeg).toNatClampNeg fun q1 => if isRt q1 = true then (if ¬ (X q1 5) = 0 then some (some q1) else (f_X7_hasNotices X q1).bind fun t2 => (if t2 = 0 then b_X8_firstNoisy_42 rec2 X v1 else some (some q1))) else none else none)))
def l_X8_firstNoisy_2 (X : JX) : Int32 → Option (Option Nat) := loop1 (lb_X8_firstNoisy_2 X) 1000
def f_X8_firstNoisy (X : JX) : Option (Option Nat) := l_X8_firstNoisy_2 X (0)
def f_X7_beginCrawl (X : JX) (q0 : Nat) : Option JX := (f_X1_startAnew X (q0 + 3) (X q0 3)).bind fun X1 => some X1
def b_X7_takeFirst_50 (X : JX) (q0 : Nat) : Option JX := nX (pX X q0 (upd (X q0) 4 (if (0) < ((X q0 4) - (1)) then ((X q0 4) - (1)) else (0)))) fun X4 => some X4
def lb_X7_takeFirst_2 (q0 : Nat) (rec2 : JX → Int32 → Option JX) (X : JX) (v1 : Int32) : Option JX := (if (X q0 4) ≤ v1 then b_X7_takeFirst_50 X q0 else (if 8 ≤ v1 then b_X7_takeFirst_50 X q0 else (if okI v1 8 = true then (if okI (v1 - (1)) 8 = true then nX (pX X (q0 + 1) (upd (X (q0 + 1)) (v1 - (1)).toNatClampNeg (X (q0 + 1) v1.toNatClampNeg))) fun X1 => (if okI v1 8 = true then (if okI (v1 - (1)) 8 = true then nX (pX X1 (q0 + 2) (upd (X1 (q0 + 2)) (v1 - (1)).toNatClampNeg (X1 (q0 + 2) v1.toNatClampNeg))) fun X2 => nV (v1 + 1) fun t3 => rec2 X2 t3 else none) else none) else none) else none)))
def l_X7_takeFirst_2 (q0 : Nat) : JX → Int32 → Option JX := loop2 (lb_X7_takeFirst_2 q0) 1000
def f_X7_takeFirst (X : JX) (q0 : Nat) : Option JX := l_X7_takeFirst_2 q0 X (1)
def b_X4_hear_42 (X : JX) (q1 : Nat) (s0 : Int32) (s1 : Int32) : Option JX := (f_X0_add X s1 s0).bind fun X3 => (f_X7_takeFirst X3 q1).bind fun X4 => some X4
def f_X4_hear (X : JX) (q1 : Nat) : Option JX := (if (X q1 5) = 0 then (if okI (0 : Int32) 8 = true then (if okI (0 : Int32) 8 = true then (if ¬ (X (q1 + 1) (0 : Int32).toNatClampNeg) = 3 then b_X4_hear_42 X q1 (1) (X (q1 + 2) (0 : Int32).toNatClampNeg) else b_X4_hear_42 X q1 (2) (X (q1 + 2) (0 : Int32).toNatClampNeg)) else none) else none) else (if okB (0) = true then nX (pX X q1 (upd (X q1) 5 (0))) fun X1 => (f_X7_beginCrawl X1 q1).bind fun X2 => some X2 else none))
def b_X8_firstCrawled_38 (rec2 : Int32 → Option (Option Nat)) (X : JX) (v1 : Int32) : Option (Option Nat) := nV (v1 + 1) fun t2 => rec2 t2
def lb_X8_firstCrawled_2 (X : JX) (rec2 : Int32 → Option (Option Nat)) (v1 : Int32) : Option (Option Nat) := (if (X (11) 2) ≤ v1 then some none else (if 3 ≤ v1 then some none else (if okI v1 3 = true then nN (X (12) v1.toNatClampNeg).toNatClampNeg fun q1 => if isRt q1 = true then (if (X (q1 + 3) 4) = 0 then b_X8_firstCrawled_38 rec2 X v1 else some (some q1)) else none else none)))
def l_X8_firstCrawled_2 (X : JX) : Int32 → Option (Option Nat) := loop1 (lb_X8_firstCrawled_2 X) 1000
def f_X8_firstCrawled (X : JX) : Option (Option Nat) := l_X8_firstCrawled_2 X (0)
def f_X4_doNext (X : JX) (v1 : Int32) : Option (Int32 × JX) := (f_X8_firstNoisy X ).bind fun o1 => oC o1 ((f_X0_firstReady X ).bind fun t3 => (if t3 = -1 then (f_X8_firstCrawled X ).bind fun o4 => oC o4 (some (0, X)) (fun q5 => if isRt q5 = true then (f_X4_crawlOn X q5).bind fun X6 => some (1, X6) else none) else (f_X4_act X t3 v1).bind fun t7 => some (t7.1, t7.2))) (fun q2 => if isRt q2 = true then (f_X4_hear X q2).bind fun X8 => some (1, X8) else none)
def b_X4_doSteps_42 (X : JX) (v2 : Int32) : Option (Int32 × JX) := (f_X0_endWork X ).bind fun X4 => (f_X3_endWork X4 ).bind fun X5 => (f_X2_endWork X5 ).bind fun X6 => some (v2, X6)
def lb_X4_doSteps_4 (v1 : Int32) (rec4 : JX → Int32 → Int32 → Option (Int32 × JX)) (X : JX) (v2 : Int32) (v3 : Int32) : Option (Int32 × JX) := (if v1 ≤ v3 then b_X4_doSteps_42 X v2 else (if v1 ≤ v2 then b_X4_doSteps_42 X v2 else (f_X4_doNext X (v1 - v2)).bind fun t1 => (if ¬ t1.1 = 0 then nV (v2 + t1.1) fun t2 => nV (v3 + 1) fun t3 => rec4 t1.2 t2 t3 else b_X4_doSteps_42 t1.2 v2)))
def l_X4_doSteps_4 (v1 : Int32) : JX → Int32 → Int32 → Option (Int32 × JX) := loop3 (lb_X4_doSteps_4 v1) 1000
def f_X4_doSteps (X : JX) (v1 : Int32) : Option (Int32 × JX) := l_X4_doSteps_4 v1 X (0) (0)
def b_X4_lookAtAllEntries_28 (rec2 : JX → Int32 → Option JX) (X : JX) (v1 : Int32) : Option JX := nV (v1 + 1) fun t3 => rec2 X t3
def lb_X4_lookAtAllEntries_2 (rec2 : JX → Int32 → Option JX) (X : JX) (v1 : Int32) : Option JX := (if 60 ≤ v1 then some X else (f_X2_has X v1).bind fun t1 => (if t1 = 0 then b_X4_lookAtAllEntries_28 rec2 X v1 else (f_X0_add X v1 (1)).bind fun X2 => b_X4_lookAtAllEntries_28 rec2 X2 v1))
def l_X4_lookAtAllEntries_2 : JX → Int32 → Option JX := loop2 (lb_X4_lookAtAllEntries_2 ) 1000
def f_X4_lookAtAllEntries (X : JX) : Option JX := l_X4_lookAtAllEntries_2 X (0)
def b_X5_closestPlaces_159 (rec38 : Int32 → Int32 → Int32 → Int32 → Option Int32) (rec48 : Int32 → Int32 → Int32 → Int32 → Option Int32) (X : JX) (v2 : Int32) (v3 : Int32) (q4 : Nat) (v5 : Int32) (v6 : Int32) (v7 : Int32) (v8 : Int32) (v9 : Int32) (v10 : Int32) : Option Int32 := nV (v10 + 1) fun t8 => rec48 v6 v7 v8 t8
def b_X5_closestPlaces_141 (rec38 : Int32 → Int32 → Int32 → Int32 → Option Int32) (rec48 : Int32 → Int32 → Int32 → Int32 → Option Int32) (X : JX) (v2 : Int32) (v3 : Int32) (q4 : Nat) (v5 : Int32) (v9 : Int32) (v10 : Int32) (v11 : Int32) (v12 : Int32) : Option Int32 := nV (((100) * v9) + v10) fun t9 => b_X5_closestPlaces_159 rec38 rec48 X v2 v3 q4 v5 t9 v11 v12 v9 v10
def b_X5_closestPlaces_128 (rec38 : Int32 → Int32 → Int32 → Int32 → Option Int32) (rec48 : Int32 → Int32 → Int32 → Int32 → Option Int32) (X : JX) (v2 : Int32) (v3 : Int32) (q4 : Nat) (v5 : Int32) (v6 : Int32) (v7 : Int32) (v8 : Int32) (v9 : Int32) (v10 : Int32) (v11 : Int32) (v12 : Int32) (s0 : Int32) : Option Int32 := (if v6 = -1 then b_X5_closestPlaces_141 rec38 rec48 X v2 v3 q4 v5 v9 v10 v11 v12 else (if s0 = 0 then b_X5_closestPlaces_159 rec38 rec48 X v2 v3 q4 v5 v6 v7 v8 v9 v10 else b_X5_closestPlaces_141 rec38 rec48 X v2 v3 q4 v5 v9 v10 v11 v12))
def lb_X5_closestPlaces_48 (rec38 : Int32 → Int32 → Int32 → Int32 → Option Int32) (X : JX) (v2 : Int32) (v3 : Int32) (q4 : Nat) (v5 : Int32) (v9 : Int32) (rec48 : Int32 → Int32 → Int32 → Int32 → Option Int32) (v6 : Int32) (v7 : Int32) (v8 : Int32) (v10 : Int32) : Option Int32 := (if v5 ≤ v10 then nV (v9 + 1) fun t5 => rec38 v6 v7 v8 t5 else (if v9 = v10 then b_X5_closestPlaces_159 rec38 rec48 X v2 v3 q4 v5 v6 v7 v8 v9 v10 else (if okI v9 20 = true then (if ¬ (X q4 v9.toNatClampNeg) = v2 then b_X5_closestPlaces_159 rec38 rec48 X v2 v3 q4 v5 v6 v7 v8 v9 v10 else (if okI v10 20 = true then (if (X q4 v10.toNatClampNeg) = v3 then nV (if 0 ≤ (v9 - v10) then (v9 - v10) else 0 - (v9 - v10)) fun t6 => nV (if v10 < v9 then v10 else v9) fun t7 => (if t6 < v7 then b_X5_closestPlaces_128 rec38 rec48 X v2 v3 q4 v5 v6 v7 v8 v9 v10 t6 t7 (1) else (if ¬ t6 = v7 then b_X5_closestPlaces_128 rec38 rec48 X v2 v3 q4 v5 v6 v7 v8 v9 v10 t6 t7 (0) else (if v8 ≤ t7 then b_X5_closestPlaces_128 rec38 rec48 X v2 v3 q4 v5 v6 v7 v8 v9 v10 t6 t7 (0) else b_X5_closestPlaces_128 rec38 rec48 X v2 v3 q4 v5 v6 v7 v8 v9 v10 t6 t7 (1)))) else b_X5_closestPlaces_159 rec38 rec48 X v2 v3 q4 v5 v6 v7 v8 v9 v10) else none)) else none)))
def l_X5_closestPlaces_48 (rec38 : Int32 → Int32 → Int32 → Int32 → Option Int32) (X : JX) (v2 : Int32) (v3 : Int32) (q4 : Nat) (v5 : Int32) (v9 : Int32) : Int32 → Int32 → Int32 → Int32 → Option Int32 := loop4 (lb_X5_closestPlaces_48 rec38 X v2 v3 q4 v5 v9) 1000
def lb_X5_closestPlaces_38 (X : JX) (v2 : Int32) (v3 : Int32) (q4 : Nat) (v5 : Int32) (rec38 : Int32 → Int32 → Int32 → Int32 → Option Int32) (v6 : Int32) (v7 : Int32) (v8 : Int32) (v9 : Int32) : Option Int32 := (if v5 ≤ v9 then some v6 else l_X5_closestPlaces_48 rec38 X v2 v3 q4 v5 v9 v6 v7 v8 (0))
def l_X5_closestPlaces_38 (X : JX) (v2 : Int32) (v3 : Int32) (q4 : Nat) (v5 : Int32) : Int32 → Int32 → Int32 → Int32 → Option Int32 := loop4 (lb_X5_closestPlaces_38 X v2 v3 q4 v5) 1000
def f_X5_closestPlaces (X : JX) (v1 : Int32) (v2 : Int32) (v3 : Int32) : Option Int32 := (f_X2_wordsOf X v1).bind fun q1 => if isI20 q1 = true then (f_X2_lengthOf X v1).bind fun t2 => nV (if (20) < t2 then (20) else t2) fun t3 => nV (-1) fun t4 => l_X5_closestPlaces_38 X v2 v3 q1 t3 t4 (0) (0) (0) else none
def f_X9_peopleOf (X : JX) (v1 : Int32) : Option Int32 := (if v1 < 0 then some (0) else (if 60 ≤ v1 then some (0) else (if okI v1 60 = true then some (X (7) v1.toNatClampNeg) else none)))
def lb_X9_isOpenTo_5 (X : JX) (v1 : Int32) (rec5 : Int32 → Int32 → Option Int32) (v3 : Int32) (v4 : Int32) : Option Int32 := (if 60 ≤ v4 then some (1) else (if v3 = -1 then some (1) else (f_X9_peopleOf X v3).bind fun t1 => (if ¬ ((t1 >>> (v1 &&& 31)) &&& (1)) = 0 then (f_X9_parentOf X v3).bind fun t2 => nV (v4 + 1) fun t3 => rec5 t2 t3 else some (0))))
def l_X9_isOpenTo_5 (X : JX) (v1 : Int32) : Int32 → Int32 → Option Int32 := loop2 (lb_X9_isOpenTo_5 X v1) 1000
def f_X9_isOpenTo (X : JX) (v1 : Int32) (v2 : Int32) : Option Int32 := l_X9_isOpenTo_5 X v1 v2 (0)
def b_X5_score_80 (X : JX) (v3 : Int32) (v4 : Int32) (v5 : Int32) (v6 : Int32) : Option Int32 := (if ¬ v3 = -1 then (if v4 = 0 then some (0) else (if ¬ v5 = 0 then (if v6 = 0 then some ((v4 + v5) + (0)) else some ((v4 + v5) + (10))) else some (0))) else some v4)
def b_X5_score_74 (rec12 : Int32 → Int32 → Int32 → Int32 → Option Int32) (X : JX) (q0 : Nat) (v1 : Int32) (v2 : Int32) (v3 : Int32) (v4 : Int32) (v5 : Int32) (v6 : Int32) (v7 : Int32) : Option Int32 := nV (v7 + 1) fun t3 => rec12 v4 v5 v6 t3
def b_X5_score_72 (rec12 : Int32 → Int32 → Int32 → Int32 → Option Int32) (X : JX) (q0 : Nat) (v1 : Int32) (v2 : Int32) (v3 : Int32) (v4 : Int32) (v5 : Int32) (v7 : Int32) (s0 : Int32) : Option Int32 := b_X5_score_74 rec12 X q0 v1 v2 v3 v4 v5 s0 v7
def b_X5_score_36 (rec12 : Int32 → Int32 → Int32 → Int32 → Option Int32) (X : JX) (q0 : Nat) (v1 : Int32) (v2 : Int32) (v3 : Int32) (v4 : Int32) (v5 : Int32) (v6 : Int32) (v7 : Int32) : Option Int32 := (if okI v7 20 = true then (if ¬ (X q0 v7.toNatClampNeg) = v3 then b_X5_score_74 rec12 X q0 v1 v2 v3 v4 v5 v6 v7 else nV (v5 + 1) fun t2 => (if ¬ v6 = 0 then b_X5_score_72 rec12 X q0 v1 v2 v3 v4 t2 v7 (1) else (if v7 ≤ 0 then b_X5_score_72 rec12 X q0 v1 v2 v3 v4 t2 v7 (0) else (if okI (v7 - (1)) 20 = true then (if ¬ (X q0 (v7 - (1)).toNatClampNeg) = v2 then b_X5_score_72 rec12 X q0 v1 v2 v3 v4 t2 v7 (0) else b_X5_score_72 rec12 X q0 v1 v2 v3 v4 t2 v7 (1)) else none)))) else none)
def lb_X5_score_12 (X : JX) (q0 : Nat) (v1 : Int32) (v2 : Int32) (v3 : Int32) (rec12 : Int32 → Int32 → Int32 → Int32 → Option Int32) (v4 : Int32) (v5 : Int32) (v6 : Int32) (v7 : Int32) : Option Int32 := (if v1 ≤ v7 then b_X5_score_80 X v3 v4 v5 v6 else (if 20 ≤ v7 then b_X5_score_80 X v3 v4 v5 v6 else (if okI v7 20 = true then (if ¬ (X q0 v7.toNatClampNeg) = v2 then b_X5_score_36 rec12 X q0 v1 v2 v3 v4 v5 v6 v7 else nV (v4 + 1) fun t1 => b_X5_score_36 rec12 X q0 v1 v2 v3 t1 v5 v6 v7) else none)))
def l_X5_score_12 (X : JX) (q0 : Nat) (v1 : Int32) (v2 : Int32) (v3 : Int32) : Int32 → Int32 → Int32 → Int32 → Option Int32 := loop4 (lb_X5_score_12 X q0 v1 v2 v3) 1000
def f_X5_score (X : JX) (q0 : Nat) (v1 : Int32) (v2 : Int32) (v3 : Int32) : Option Int32 := l_X5_score_12 X q0 v1 v2 v3 (0) (0) (0) (0)
def f_X5_scoreOf (X : JX) (v1 : Int32) (v2 : Int32) (v3 : Int32) (v4 : Int32) : Option Int32 := (f_X9_isFile X v2).bind fun t1 => (if t1 = 0 then some (0) else (f_X2_has X v2).bind fun t2 => (if t2 = 0 then some (0) else (f_X9_isOpenTo X v1 v2).bind fun t3 => (if ¬ t3 = 0 then (f_X2_wordsOf X v2).bind fun q4 => if isI20 q4 = true then (f_X2_lengthOf X v2).bind fun t5 => (f_X5_score X q4 t5 v3 v4).bind fun t6 => some t6 else none else some (0))))
def b_X5_count_60 (rec6 : Int32 → Int32 → Option Int32) (X : JX) (v1 : Int32) (v2 : Int32) (v3 : Int32) (v4 : Int32) (v5 : Int32) (v6 : Int32) : Option Int32 := nV (v6 + 1) fun t4 => rec6 v5 t4
def b_X5_count_38 (rec6 : Int32 → Int32 → Option Int32) (X : JX) (v1 : Int32) (v2 : Int32) (v3 : Int32) (v4 : Int32) (v5 : Int32) (v6 : Int32) (s0 : Int32) : Option Int32 := (if s0 = 0 then b_X5_count_60 rec6 X v1 v2 v3 v4 v5 v6 else (f_X5_scoreOf X v1 v6 v2 v3).bind fun t2 => (if t2 ≤ 0 then b_X5_count_60 rec6 X v1 v2 v3 v4 v5 v6 else nV (v5 + 1) fun t3 => b_X5_count_60 rec6 X v1 v2 v3 v4 t3 v6))
def lb_X5_count_6 (X : JX) (v1 : Int32) (v2 : Int32) (v3 : Int32) (v4 : Int32) (rec6 : Int32 → Int32 → Option Int32) (v5 : Int32) (v6 : Int32) : Option Int32 := (if 60 ≤ v6 then some v5 else (if v4 = -1 then b_X5_count_38 rec6 X v1 v2 v3 v4 v5 v6 (1) else (f_X2_isBelow X v6 v4).bind fun t1 => (if t1 = 0 then b_X5_count_38 rec6 X v1 v2 v3 v4 v5 v6 (0) else b_X5_count_38 rec6 X v1 v2 v3 v4 v5 v6 (1))))
def l_X5_count_6 (X : JX) (v1 : Int32) (v2 : Int32) (v3 : Int32) (v4 : Int32) : Int32 → Int32 → Option Int32 := loop2 (lb_X5_count_6 X v1 v2 v3 v4) 1000
def f_X5_count (X : JX) (v1 : Int32) (v2 : Int32) (v3 : Int32) (v4 : Int32) : Option Int32 := l_X5_count_6 X v1 v2 v3 v4 (0) (0)
def b_X5_countAhead_60 (rec4 : Int32 → Int32 → Option Int32) (X : JX) (v1 : Int32) (v2 : Int32) (v3 : Int32) : Option Int32 := nV (v3 + 1) fun t2 => rec4 v2 t2
def b_X5_countAhead_57 (rec4 : Int32 → Int32 → Option Int32) (X : JX) (v1 : Int32) (v2 : Int32) (v3 : Int32) : Option Int32 := nV (v2 + 1) fun t1 => b_X5_countAhead_60 rec4 X v1 t1 v3
def b_X5_countAhead_30 (rec4 : Int32 → Int32 → Option Int32) (X : JX) (v1 : Int32) (v2 : Int32) (v3 : Int32) (s0 : Int32) : Option Int32 := (if ¬ s0 = 0 then b_X5_countAhead_57 rec4 X v1 v2 v3 else (if okI v3 60 = true then (if okI v1 60 = true then (if ¬ (X (54) v3.toNatClampNeg) = (X (54) v1.toNatClampNeg) then b_X5_countAhead_60 rec4 X v1 v2 v3 else (if v1 ≤ v3 then b_X5_countAhead_60 rec4 X v1 v2 v3 else b_X5_countAhead_57 rec4 X v1 v2 v3)) else none) else none))
def lb_X5_countAhead_4 (X : JX) (v1 : Int32) (rec4 : Int32 → Int32 → Option Int32) (v2 : Int32) (v3 : Int32) : Option Int32 := (if 60 ≤ v3 then some v2 else (if okI v3 60 = true then (if okI v1 60 = true then (if (X (54) v3.toNatClampNeg) ≤ (X (54) v1.toNatClampNeg) then b_X5_countAhead_30 rec4 X v1 v2 v3 (0) else b_X5_countAhead_30 rec4 X v1 v2 v3 (1)) else none) else none))
def l_X5_countAhead_4 (X : JX) (v1 : Int32) : Int32 → Int32 → Option Int32 := loop2 (lb_X5_countAhead_4 X v1) 1000
def f_X5_countAhead (X : JX) (v1 : Int32) : Option Int32 := l_X5_countAhead_4 X v1 (0) (0)
def f_X5_isWithinNow (X : JX) (v1 : Int32) (v2 : Int32) : Option Int32 := (f_X8_above X v1).bind fun o1 => oC o1 (some (0)) (fun q2 => if isRt q2 = true then (if v2 = -1 then some (1) else (if ¬ v2 = (X q2 3) then (f_X9_isBelow X v2 (X q2 3)).bind fun t3 => (if t3 = 0 then some (0) else (f_X9_isBelow X v1 v2).bind fun t4 => (if t4 = 0 then some (0) else some (1))) else some (1))) else none)
def b_X5_countAnew_97 (rec6 : JX → Int32 → Int32 → Option (Int32 × JX)) (X : JX) (v1 : Int32) (v2 : Int32) (v3 : Int32) (v4 : Int32) (v5 : Int32) (v6 : Int32) : Option (Int32 × JX) := nV (v6 + 1) fun t9 => rec6 X v5 t9
def lb_X5_countAnew_6 (v1 : Int32) (v2 : Int32) (v3 : Int32) (v4 : Int32) (rec6 : JX → Int32 → Int32 → Option (Int32 × JX)) (X : JX) (v5 : Int32) (v6 : Int32) : Option (Int32 × JX) := (if 60 ≤ v6 then some (v5, X) else (f_X9_isFile X v6).bind fun t1 => (if t1 = 0 then b_X5_countAnew_97 rec6 X v1 v2 v3 v4 v5 v6 else (f_X9_isOpenTo X v1 v6).bind fun t2 => (if t2 = 0 then b_X5_countAnew_97 rec6 X v1 v2 v3 v4 v5 v6 else (f_X5_isWithinNow X v6 v4).bind fun t3 => (if t3 = 0 then b_X5_countAnew_97 rec6 X v1 v2 v3 v4 v5 v6 else (f_X9_textOf X v6).bind fun q4 => if isI20 q4 = true then (f_X9_lengthOf X v6).bind fun t5 => (f_X6_takeWords X q4 t5 (55)).bind fun t6 => (f_X5_score t6.2 (55) t6.1 v2 v3).bind fun t7 => (if t7 ≤ 0 then b_X5_countAnew_97 rec6 t6.2 v1 v2 v3 v4 v5 v6 else nV (v5 + 1) fun t8 => b_X5_countAnew_97 rec6 t6.2 v1 v2 v3 v4 t8 v6) else none))))
def l_X5_countAnew_6 (v1 : Int32) (v2 : Int32) (v3 : Int32) (v4 : Int32) : JX → Int32 → Int32 → Option (Int32 × JX) := loop3 (lb_X5_countAnew_6 v1 v2 v3 v4) 1000
def f_X5_countAnew (X : JX) (v1 : Int32) (v2 : Int32) (v3 : Int32) (v4 : Int32) : Option (Int32 × JX) := l_X5_countAnew_6 v1 v2 v3 v4 X (0) (0)
def b_X5_fileAt_77 (rec35 : Int32 → Option (Int32 × JX)) (X : JX) (v4 : Int32) (v5 : Int32) : Option (Int32 × JX) := nV (v5 + 1) fun t5 => rec35 t5
def lb_X5_fileAt_35 (X : JX) (v4 : Int32) (rec35 : Int32 → Option (Int32 × JX)) (v5 : Int32) : Option (Int32 × JX) := (if 60 ≤ v5 then some (-1, X) else (if okI v5 60 = true then (if (X (54) v5.toNatClampNeg) ≤ 0 then b_X5_fileAt_77 rec35 X v4 v5 else (f_X5_countAhead X v5).bind fun t4 => (if ¬ t4 = v4 then b_X5_fileAt_77 rec35 X v4 v5 else (if okI v5 60 = true then some ((((100) * (X (54) v5.toNatClampNeg)) + v5), X) else none))) else none))
def l_X5_fileAt_35 (X : JX) (v4 : Int32) : Int32 → Option (Int32 × JX) := loop1 (lb_X5_fileAt_35 X v4) 1000
def lb_X5_fileAt_3 (v1 : Int32) (v2 : Int32) (v3 : Int32) (v4 : Int32) (rec3 : JX → Int32 → Option (Int32 × JX)) (X : JX) (v5 : Int32) : Option (Int32 × JX) := (if 60 ≤ v5 then l_X5_fileAt_35 X v4 (0) else (f_X5_scoreOf X v1 v5 v2 v3).bind fun t1 => (if okI v5 60 = true then nX (pX X (54) (upd (X (54)) v5.toNatClampNeg t1)) fun X2 => nV (v5 + 1) fun t3 => rec3 X2 t3 else none))
def l_X5_fileAt_3 (v1 : Int32) (v2 : Int32) (v3 : Int32) (v4 : Int32) : JX → Int32 → Option (Int32 × JX) := loop2 (lb_X5_fileAt_3 v1 v2 v3 v4) 1000
def f_X5_fileAt (X : JX) (v1 : Int32) (v2 : Int32) (v3 : Int32) (v4 : Int32) : Option (Int32 × JX) := l_X5_fileAt_3 v1 v2 v3 v4 X (0)
def f_X7_countOrFlood (X : JX) (q0 : Nat) : Option Int32 := (if (X q0 5) = 0 then some (X q0 4) else some (-1))
def f_X7_forgetLast (X : JX) (q0 : Nat) (v1 : Int32) : Option (Int32 × JX) := nX (pX X q0 (upd (X q0) 4 (if (0) < ((X q0 4) - v1) then ((X q0 4) - v1) else (0)))) fun X1 => some ((X1 q0 4), X1)
def f_X7_startAt (X : JX) (q0 : Nat) (v1 : Int32) : Option JX := nX (pX X q0 (upd (X q0) 3 v1)) fun X1 => nX (pX X1 q0 (upd (X1 q0) 4 (0))) fun X2 => (if okB (0) = true then nX (pX X2 q0 (upd (X2 q0) 5 (0))) fun X3 => (f_X7_beginCrawl X3 q0).bind fun X4 => some X4 else none)
def b_X7_tell_24 (X : JX) (q0 : Nat) : Option JX := (if okB (1) = true then nX (pX X q0 (upd (X q0) 5 (1))) fun X4 => nX (pX X4 q0 (upd (X4 q0) 4 (0))) fun X5 => some X5 else none)
def f_X7_tell (X : JX) (q0 : Nat) (v1 : Int32) (v2 : Int32) : Option JX := (if (X q0 5) = 0 then (if (X q0 4) < 0 then b_X7_tell_24 X q0 else (if (X q0 4) < 8 then (if okI (X q0 4) 8 = true then nX (pX X (q0 + 1) (upd (X (q0 + 1)) (X q0 4).toNatClampNeg v1)) fun X1 => (if okI (X1 q0 4) 8 = true then nX (pX X1 (q0 + 2) (upd (X1 (q0 + 2)) (X1 q0 4).toNatClampNeg v2)) fun X2 => nX (pX X2 q0 (upd (X2 q0) 4 ((X2 q0 4) + (1)))) fun X3 => some X3 else none) else none) else b_X7_tell_24 X q0)) else some X)
def f_X7_tellLastAgain (X : JX) (q0 : Nat) : Option JX := nV ((X q0 4) - (1)) fun t1 => (if t1 < 0 then some X else (if 8 ≤ t1 then some X else (if okI t1 8 = true then (if okI t1 8 = true then (f_X7_tell X q0 (X (q0 + 1) t1.toNatClampNeg) (X (q0 + 2) t1.toNatClampNeg)).bind fun X2 => some X2 else none) else none)))
def f_X8_add (X : JX) (v1 : Int32) : Option JX := (if (X (11) 2) < 0 then some X else (if (X (11) 2) < 3 then (if okI (X (11) 2) 3 = true then nN (X (12) (X (11) 2).toNatClampNeg).toNatClampNeg fun q1 => if isRt q1 = true then (f_X7_startAt X q1 v1).bind fun X2 => nX (pX X2 (11) (upd (X2 (11)) 2 ((X2 (11) 2) + (1)))) fun X3 => some X3 else none else none) else some X))
def f_X8_count (X : JX) : Option Int32 := some (X (11) 2)
def b_X8_countCrawls_41 (rec4 : Int32 → Int32 → Option Int32) (X : JX) (v1 : Int32) (v2 : Int32) : Option Int32 := nV (v2 + 1) fun t3 => rec4 v1 t3
def lb_X8_countCrawls_4 (X : JX) (rec4 : Int32 → Int32 → Option Int32) (v1 : Int32) (v2 : Int32) : Option Int32 := (if (X (11) 2) ≤ v2 then some v1 else (if 3 ≤ v2 then some v1 else (if okI v2 3 = true then nN (X (12) v2.toNatClampNeg).toNatClampNeg fun q1 => if isRt q1 = true then (if (X (q1 + 3) 4) = 0 then b_X8_countCrawls_41 rec4 X v1 v2 else nV (v1 + 1) fun t2 => b_X8_countCrawls_41 rec4 X t2 v2) else none else none)))
def l_X8_countCrawls_4 (X : JX) : Int32 → Int32 → Option Int32 := loop2 (lb_X8_countCrawls_4 X) 1000
def f_X8_countCrawls (X : JX) : Option Int32 := l_X8_countCrawls_4 X (0) (0)
def b_X8_end_68 (X : JX) (q2 : Nat) (v3 : Int32) : Option JX := (if 3 ≤ v3 then nX (pX X (11) (upd (X (11)) 2 v3)) fun X6 => some X6 else (if okI v3 3 = true then nX (pX X (12) (upd (X (12)) v3.toNatClampNeg (nI q2))) fun X7 => nX (pX X7 (11) (upd (X7 (11)) 2 v3)) fun X8 => some X8 else none))
def b_X8_end_62 (rec16 : JX → Int32 → Int32 → Option JX) (X : JX) (q2 : Nat) (v3 : Int32) (v4 : Int32) : Option JX := nV (v4 + 1) fun t9 => rec16 X v3 t9
def lb_X8_end_16 (q2 : Nat) (rec16 : JX → Int32 → Int32 → Option JX) (X : JX) (v3 : Int32) (v4 : Int32) : Option JX := (if (X (11) 2) ≤ v4 then b_X8_end_68 X q2 v3 else (if 3 ≤ v4 then b_X8_end_68 X q2 v3 else (if okI v4 3 = true then nN (X (12) v4.toNatClampNeg).toNatClampNeg fun q3 => if isRt q3 = true then (if q3 = q2 then b_X8_end_62 rec16 X q2 v3 v4 else (if 3 ≤ v3 then b_X8_end_62 rec16 X q2 v3 v4 else (if okI v3 3 = true then nX (pX X (12) (upd (X (12)) v3.toNatClampNeg (nI q3))) fun X4 => nV (v3 + 1) fun t5 => b_X8_end_62 rec16 X4 q2 t5 v4 else none))) else none else none)))
def l_X8_end_16 (q2 : Nat) : JX → Int32 → Int32 → Option JX := loop3 (lb_X8_end_16 q2) 1000
def f_X8_end (X : JX) (v1 : Int32) : Option JX := (f_X8_find X v1).bind fun o1 => oC o1 (some X) (fun q2 => if isRt q2 = true then l_X8_end_16 q2 X (0) (0) else none)
def f_X9_isThere (X : JX) (v1 : Int32) : Option Int32 := (if v1 < 0 then some (0) else (if 60 ≤ v1 then some (0) else (if okI v1 60 = true then (if (X (5) v1.toNatClampNeg) = 0 then some (0) else some (1)) else none)))
def b_X8_endGone_51 (rec4 : JX → Int32 → Int32 → Option (Int32 × JX)) (X : JX) (v1 : Int32) (v2 : Int32) : Option (Int32 × JX) := nV (v2 + (-1)) fun t4 => rec4 X v1 t4
def lb_X8_endGone_4 (rec4 : JX → Int32 → Int32 → Option (Int32 × JX)) (X : JX) (v1 : Int32) (v2 : Int32) : Option (Int32 × JX) := (if v2 < 0 then (if okB v1 = true then some (v1, X) else none) else (if okI v2 3 = true then nN (X (12) v2.toNatClampNeg).toNatClampNeg fun q1 => if isRt q1 = true then (if (X (11) 2) ≤ v2 then b_X8_endGone_51 rec4 X v1 v2 else (f_X9_isThere X (X q1 3)).bind fun t2 => (if ¬ t2 = 0 then b_X8_endGone_51 rec4 X v1 v2 else (f_X8_end X (X q1 3)).bind fun X3 => b_X8_endGone_51 rec4 X3 (1) v2)) else none else none))
def l_X8_endGone_4 : JX → Int32 → Int32 → Option (Int32 × JX) := loop3 (lb_X8_endGone_4 ) 1000
def f_X8_endGone (X : JX) : Option (Int32 × JX) := l_X8_endGone_4 X (0) (2)
def b_X8_hasAtOrBelow_51 (rec2 : Int32 → Option Int32) (X : JX) (v1 : Int32) (v2 : Int32) : Option Int32 := nV (v2 + 1) fun t3 => rec2 t3
def lb_X8_hasAtOrBelow_2 (X : JX) (v1 : Int32) (rec2 : Int32 → Option Int32) (v2 : Int32) : Option Int32 := (if (X (11) 2) ≤ v2 then some (0) else (if 3 ≤ v2 then some (0) else (if okI v2 3 = true then nN (X (12) v2.toNatClampNeg).toNatClampNeg fun q1 => if isRt q1 = true then (if (X q1 3) = v1 then some (1) else (f_X9_isBelow X (X q1 3) v1).bind fun t2 => (if t2 = 0 then b_X8_hasAtOrBelow_51 rec2 X v1 v2 else some (1))) else none else none)))
def l_X8_hasAtOrBelow_2 (X : JX) (v1 : Int32) : Int32 → Option Int32 := loop1 (lb_X8_hasAtOrBelow_2 X v1) 1000
def f_X8_hasAtOrBelow (X : JX) (v1 : Int32) : Option Int32 := l_X8_hasAtOrBelow_2 X v1 (0)
def f_X8_isFull (X : JX) : Option Int32 := (if (X (11) 2) < 3 then some (0) else some (1))
def f_X8_tellAbove (X : JX) (v1 : Int32) (v2 : Int32) : Option JX := (f_X8_above X v1).bind fun o1 => oC o1 (some X) (fun q2 => if isRt q2 = true then (f_X7_tell X q2 v2 v1).bind fun X3 => some X3 else none)
def b_X9_add_80 (X : JX) (v4 : Int32) (s0 : Int32) (s1 : Int32) : Option (Int32 × JX) := (if okI s1 60 = true then nX (pX X (8) (upd (X (8)) s1.toNatClampNeg s0)) fun X7 => nX (pX X7 (1) (upd (X7 (1)) 9 ((X7 (1) 9) + (1)))) fun X8 => some (v4, X8) else none)
def f_X9_add (X : JX) (v1 : Int32) (v2 : Int32) (v3 : Int32) : Option (Int32 × JX) := (if (X (1) 9) < 0 then some (-1, X) else (if (X (1) 9) < 60 then nV (X (1) 9) fun t1 => (if okI t1 60 = true then nX (pX X (2) (upd (X (2)) t1.toNatClampNeg v1)) fun X2 => (if okI t1 60 = true then nX (pX X2 (3) (upd (X2 (3)) t1.toNatClampNeg (vp_nar .char v2))) fun X3 => (if okI t1 60 = true then nX (pX X3 (4) (upd (X3 (4)) t1.toNatClampNeg (vp_nar .boolean v3))) fun X4 => (if okI t1 60 = true then nX (pX X4 (5) (upd (X4 (5)) t1.toNatClampNeg (vp_nar .boolean (1)))) fun X5 => (if okI t1 60 = true then nX (pX X5 (7) (upd (X5 (7)) t1.toNatClampNeg (15))) fun X6 => (if v3 = 0 then b_X9_add_80 X6 t1 (1) t1 else b_X9_add_80 X6 t1 (0) t1) else none) else none) else none) else none) else none) else some (-1, X)))
def f_X9_append (X : JX) (v1 : Int32) (v2 : Int32) : Option JX := (f_X9_lengthOf X v1).bind fun t1 => (f_X9_isFile X v1).bind fun t2 => (if t2 = 0 then some X else (if t1 < 0 then some X else (if 20 ≤ t1 then some X else (if okI v1 60 = true then nN (56 + v1.toNatClampNeg) fun q3 => if isI20 q3 = true then (if okI t1 20 = true then nX (pX X q3 (upd (X q3) t1.toNatClampNeg v2)) fun X4 => (if okI v1 60 = true then nX (pX X4 (9) (upd (X4 (9)) v1.toNatClampNeg (t1 + (1)))) fun X5 => (if okI v1 60 = true then (if okI v1 60 = true then nX (pX X5 (8) (upd (X5 (8)) v1.toNatClampNeg ((X5 (8) v1.toNatClampNeg) + (1)))) fun X6 => some X6 else none) else none) else none) else none) else none else none))))
def f_X9_clearText (X : JX) (v1 : Int32) : Option JX := (f_X9_isFile X v1).bind fun t1 => (if t1 = 0 then some X else (if okI v1 60 = true then nX (pX X (9) (upd (X (9)) v1.toNatClampNeg (0))) fun X2 => (if okI v1 60 = true then (if okI v1 60 = true then nX (pX X2 (8) (upd (X2 (8)) v1.toNatClampNeg ((X2 (8) v1.toNatClampNeg) + (1)))) fun X3 => some X3 else none) else none) else none))
def b_X9_countThere_22 (rec4 : Int32 → Int32 → Option Int32) (X : JX) (v1 : Int32) (v2 : Int32) : Option Int32 := nV (v2 + 1) fun t2 => rec4 v1 t2
def lb_X9_countThere_4 (X : JX) (rec4 : Int32 → Int32 → Option Int32) (v1 : Int32) (v2 : Int32) : Option Int32 := (if 60 ≤ v2 then some v1 else (if okI v2 60 = true then (if (X (5) v2.toNatClampNeg) = 0 then b_X9_countThere_22 rec4 X v1 v2 else nV (v1 + 1) fun t1 => b_X9_countThere_22 rec4 X t1 v2) else none))
def l_X9_countThere_4 (X : JX) : Int32 → Int32 → Option Int32 := loop2 (lb_X9_countThere_4 X) 1000
def f_X9_countThere (X : JX) : Option Int32 := l_X9_countThere_4 X (0) (0)
def b_X9_findIn_39 (rec2 : Int32 → Option Int32) (X : JX) (v1 : Int32) (v2 : Int32) (v3 : Int32) : Option Int32 := nV (v3 + 1) fun t1 => rec2 t1
def lb_X9_findIn_2 (X : JX) (v1 : Int32) (v2 : Int32) (rec2 : Int32 → Option Int32) (v3 : Int32) : Option Int32 := (if 60 ≤ v3 then some (-1) else (if okI v3 60 = true then (if (X (5) v3.toNatClampNeg) = 0 then b_X9_findIn_39 rec2 X v1 v2 v3 else (if okI v3 60 = true then (if ¬ (X (2) v3.toNatClampNeg) = v1 then b_X9_findIn_39 rec2 X v1 v2 v3 else (if okI v3 60 = true then (if ¬ (X (3) v3.toNatClampNeg) = v2 then b_X9_findIn_39 rec2 X v1 v2 v3 else some v3) else none)) else none)) else none))
def l_X9_findIn_2 (X : JX) (v1 : Int32) (v2 : Int32) : Int32 → Option Int32 := loop1 (lb_X9_findIn_2 X v1 v2) 1000
def f_X9_findIn (X : JX) (v1 : Int32) (v2 : Int32) : Option Int32 := l_X9_findIn_2 X v1 v2 (0)
def f_X9_isFull (X : JX) : Option Int32 := (if (X (1) 9) < 60 then some (0) else some (1))
def f_X9_put (X : JX) (v1 : Int32) (v2 : Int32) (v3 : Int32) : Option JX := (f_X9_isThere X v1).bind fun t1 => (if t1 = 0 then some X else (if okI v1 60 = true then nX (pX X (2) (upd (X (2)) v1.toNatClampNeg v2)) fun X2 => (if okI v1 60 = true then nX (pX X2 (3) (upd (X2 (3)) v1.toNatClampNeg (vp_nar .char v3))) fun X3 => some X3 else none) else none))
def f_X9_setLocked (X : JX) (v1 : Int32) (v2 : Int32) : Option JX := (f_X9_isFile X v1).bind fun t1 => (if t1 = 0 then some X else (if okI v1 60 = true then nX (pX X (6) (upd (X (6)) v1.toNatClampNeg (vp_nar .boolean v2))) fun X2 => some X2 else none))
def f_X9_setPeople (X : JX) (v1 : Int32) (v2 : Int32) : Option JX := (f_X9_isThere X v1).bind fun t1 => (if t1 = 0 then some X else (if okI v1 60 = true then nX (pX X (7) (upd (X (7)) v1.toNatClampNeg v2)) fun X2 => some X2 else none))
def b_X9_takeAway_73 (rec51 : JX → Int32 → Option (Int32 × JX)) (X : JX) (v2 : Int32) (v3 : Int32) : Option (Int32 × JX) := nV (v3 + 1) fun t6 => rec51 X t6
def lb_X9_takeAway_51 (v2 : Int32) (rec51 : JX → Int32 → Option (Int32 × JX)) (X : JX) (v3 : Int32) : Option (Int32 × JX) := (if 60 ≤ v3 then some (v2, X) else (if okI v3 60 = true then (if ¬ (X (5) v3.toNatClampNeg) = 0 then b_X9_takeAway_73 rec51 X v2 v3 else (if okI v3 60 = true then nX (pX X (2) (upd (X (2)) v3.toNatClampNeg (-1))) fun X2 => b_X9_takeAway_73 rec51 X2 v2 v3 else none)) else none))
def l_X9_takeAway_51 (v2 : Int32) : JX → Int32 → Option (Int32 × JX) := loop2 (lb_X9_takeAway_51 v2) 1000
def b_X9_takeAway_43 (rec4 : JX → Int32 → Int32 → Option (Int32 × JX)) (X : JX) (v1 : Int32) (v2 : Int32) (v3 : Int32) : Option (Int32 × JX) := nV (v3 + 1) fun t3 => rec4 X v2 t3
def b_X9_takeAway_33 (rec4 : JX → Int32 → Int32 → Option (Int32 × JX)) (X : JX) (v1 : Int32) (v2 : Int32) (v3 : Int32) : Option (Int32 × JX) := (if okI v3 60 = true then nX (pX X (5) (upd (X (5)) v3.toNatClampNeg (vp_nar .boolean (0)))) fun X4 => nV (v2 + 1) fun t5 => b_X9_takeAway_43 rec4 X4 v1 t5 v3 else none)
def lb_X9_takeAway_4 (v1 : Int32) (rec4 : JX → Int32 → Int32 → Option (Int32 × JX)) (X : JX) (v2 : Int32) (v3 : Int32) : Option (Int32 × JX) := (if 60 ≤ v3 then l_X9_takeAway_51 v2 X (0) else (if okI v3 60 = true then (if (X (5) v3.toNatClampNeg) = 0 then b_X9_takeAway_43 rec4 X v1 v2 v3 else (if v3 = v1 then b_X9_takeAway_33 rec4 X v1 v2 v3 else (f_X9_isBelow X v3 v1).bind fun t1 => (if t1 = 0 then b_X9_takeAway_43 rec4 X v1 v2 v3 else b_X9_takeAway_33 rec4 X v1 v2 v3))) else none))
def l_X9_takeAway_4 (v1 : Int32) : JX → Int32 → Int32 → Option (Int32 × JX) := loop3 (lb_X9_takeAway_4 v1) 1000
def f_X9_takeAway (X : JX) (v1 : Int32) : Option (Int32 × JX) := l_X9_takeAway_4 v1 X (0) (0)
def f_X9_wasMade (X : JX) (v1 : Int32) : Option Int32 := (if v1 < 0 then some (0) else (if (X (1) 9) ≤ v1 then some (0) else some (1)))
def f_X10_acts (X : JX) : Option Int32 := (f_X4_countActs X ).bind fun t1 => some t1
def f_X10_isPerson (X : JX) (v0 : Int32) : Option Int32 := (if v0 < 0 then some (0) else (if 4 ≤ v0 then some (0) else some (1)))
def f_X10_isWord (X : JX) (v0 : Int32) : Option Int32 := (if v0 < 0 then some (0) else (if 99 < v0 then some (0) else some (1)))
def b_X10_isWordOrNone_12 (X : JX) : Option Int32 := some (1)
def f_X10_isWordOrNone (X : JX) (v0 : Int32) : Option Int32 := (if v0 = -1 then b_X10_isWordOrNone_12 X else (f_X10_isWord X v0).bind fun t1 => (if t1 = 0 then some (0) else b_X10_isWordOrNone_12 X))
def b_X10_answer_32 (X : JX) : Option (Option Nat × Int32 × JX) := some (some 2, 0, X)
def f_X10_answer (X : JX) (v1 : Int32) (v2 : Int32) (v3 : Int32) (v4 : Int32) : Option (Option Nat × Int32 × JX) := (f_X10_isPerson X v1).bind fun t1 => (if ¬ t1 = 0 then (f_X10_isWord X v2).bind fun t2 => (if t2 = 0 then b_X10_answer_32 X else (f_X10_isWordOrNone X v3).bind fun t3 => (if ¬ t3 = 0 then (f_X5_fileAt X v1 v2 v3 v4).bind fun t4 => (if ¬ t4.1 = -1 then some (none, t4.1, t4.2) else some (some 1, 0, t4.2)) else b_X10_answer_32 X)) else some (some 1, 0, X))
def b_X10_isMadeOrNone_16 (X : JX) : Option Int32 := some (1)
def f_X10_isMadeOrNone (X : JX) (v1 : Int32) : Option Int32 := (if v1 = -1 then b_X10_isMadeOrNone_16 X else (f_X9_wasMade X v1).bind fun t1 => (if t1 = 0 then some (0) else b_X10_isMadeOrNone_16 X))
def b_X10_answers_16 (X : JX) : Option (Option Nat × Int32 × JX) := some (some 1, 0, X)
def b_X10_answers_41 (X : JX) : Option (Option Nat × Int32 × JX) := some (some 2, 0, X)
def f_X10_answers (X : JX) (v1 : Int32) (v2 : Int32) (v3 : Int32) (v4 : Int32) : Option (Option Nat × Int32 × JX) := (f_X10_isPerson X v1).bind fun t1 => (if t1 = 0 then b_X10_answers_16 X else (f_X10_isMadeOrNone X v4).bind fun t2 => (if ¬ t2 = 0 then (f_X10_isWord X v2).bind fun t3 => (if t3 = 0 then b_X10_answers_41 X else (f_X10_isWordOrNone X v3).bind fun t4 => (if ¬ t4 = 0 then (f_X5_count X v1 v2 v3 v4).bind fun t5 => some (none, t5, X) else b_X10_answers_41 X)) else b_X10_answers_16 X))
def b_X10_answersAnew_16 (X : JX) : Option (Option Nat × Int32 × JX) := some (some 1, 0, X)
def b_X10_answersAnew_41 (X : JX) : Option (Option Nat × Int32 × JX) := some (some 2, 0, X)
def f_X10_answersAnew (X : JX) (v1 : Int32) (v2 : Int32) (v3 : Int32) (v4 : Int32) : Option (Option Nat × Int32 × JX) := (f_X10_isPerson X v1).bind fun t1 => (if t1 = 0 then b_X10_answersAnew_16 X else (f_X10_isMadeOrNone X v4).bind fun t2 => (if ¬ t2 = 0 then (f_X10_isWord X v2).bind fun t3 => (if t3 = 0 then b_X10_answersAnew_41 X else (f_X10_isWordOrNone X v3).bind fun t4 => (if ¬ t4 = 0 then (f_X5_countAnew X v1 v2 v3 v4).bind fun t5 => some (none, t5.1, t5.2) else b_X10_answersAnew_41 X)) else b_X10_answersAnew_16 X))
def f_X10_battery (X : JX) (v1 : Int32) : Option (Int32 × JX) := nV (X (0) 7) fun t1 => (if okB v1 = true then nX (pX X (0) (upd (X (0)) 7 v1)) fun X2 => (if okB t1 = true then some (t1, X2) else none) else none)
def b_X10_closest_30 (X : JX) : Option (Option Nat × Int32 × JX) := some (some 1, 0, X)
def b_X10_closest_56 (X : JX) : Option (Option Nat × Int32 × JX) := some (some 2, 0, X)
def f_X10_closest (X : JX) (v1 : Int32) (v2 : Int32) (v3 : Int32) (v4 : Int32) : Option (Option Nat × Int32 × JX) := (f_X10_isPerson X v1).bind fun t1 => (if t1 = 0 then b_X10_closest_30 X else (f_X9_isFile X v2).bind fun t2 => (if t2 = 0 then b_X10_closest_30 X else (f_X9_isOpenTo X v1 v2).bind fun t3 => (if ¬ t3 = 0 then (f_X10_isWord X v3).bind fun t4 => (if t4 = 0 then b_X10_closest_56 X else (f_X10_isWord X v4).bind fun t5 => (if ¬ t5 = 0 then (f_X5_closestPlaces X v2 v3 v4).bind fun t6 => some (none, t6, X) else b_X10_closest_56 X)) else b_X10_closest_30 X)))
def f_X10_crawl (X : JX) (v1 : Int32) : Option (Option Nat × Int32 × JX) := (f_X8_find X v1).bind fun o1 => oC o1 (some (some 1, 0, X)) (fun q2 => if isRt q2 = true then (f_X7_beginCrawl X q2).bind fun X3 => (f_X8_countCrawls X3 ).bind fun t4 => some (none, t4, X3) else none)
def f_X10_dead (X : JX) : Option Int32 := (f_X4_countDead X ).bind fun t1 => some t1
def f_X10_edition (X : JX) (v1 : Int32) : Option (Option Nat × Int32 × JX) := (f_X9_wasMade X v1).bind fun t1 => (if ¬ t1 = 0 then (f_X2_editionOf X v1).bind fun t2 => some (none, t2, X) else some (some 1, 0, X))
def f_X10_empty (X : JX) (v1 : Int32) : Option (Option Nat × Int32 × JX) := (f_X9_isFile X v1).bind fun t1 => (if ¬ t1 = 0 then (f_X9_isLocked X v1).bind fun t2 => (if t2 = 0 then (f_X9_lengthOf X v1).bind fun t3 => (f_X9_clearText X v1).bind fun X4 => (f_X8_tellAbove X4 v1 (2)).bind fun X5 => some (none, t3, X5) else some (some 3, 0, X)) else some (some 1, 0, X))
def f_X10_entries (X : JX) : Option Int32 := (f_X2_count X ).bind fun t1 => some t1
def f_X10_isName (X : JX) (v0 : Int32) : Option Int32 := (if v0 < 97 then some (0) else (if 122 < v0 then some (0) else some (1)))
def f_X10_isQuiet (X : JX) : Option Int32 := (f_X8_firstNoisy X ).bind fun o1 => oC o1 ((f_X4_countActs X ).bind fun t3 => (if ¬ t3 = 0 then some (0) else (f_X8_countCrawls X ).bind fun t4 => (if ¬ t4 = 0 then some (0) else some (1)))) (fun q2 => if isRt q2 = true then some (0) else none)
def b_X10_limits_20 (X : JX) : Option (Option Nat × Int32 × JX) := some (some 2, 0, X)
def f_X10_limits (X : JX) (v1 : Int32) (v2 : Int32) : Option (Option Nat × Int32 × JX) := (if v1 < 0 then b_X10_limits_20 X else (if 3 < v1 then b_X10_limits_20 X else (if v2 < 1 then b_X10_limits_20 X else (if v2 ≤ 20 then nV (X (34) 1) fun t1 => nX (pX X (34) (upd (X (34)) 0 v1)) fun X2 => nX (pX X2 (34) (upd (X2 (34)) 1 v2)) fun X3 => some (none, t1, X3) else b_X10_limits_20 X))))
def f_X10_lock (X : JX) (v1 : Int32) (v2 : Int32) : Option (Option Nat × Int32 × JX) := (f_X9_isFile X v1).bind fun t1 => (if ¬ t1 = 0 then (f_X9_isLocked X v1).bind fun t2 => (f_X9_setLocked X v1 v2).bind fun X3 => (if okB t2 = true then some (none, t2, X3) else none) else some (some 1, 0, X))
def b_X10_lose_34 (X : JX) : Option (Option Nat × Int32 × JX) := some (some 2, 0, X)
def f_X10_lose (X : JX) (v1 : Int32) (v2 : Int32) : Option (Option Nat × Int32 × JX) := (f_X8_find X v1).bind fun o1 => oC o1 (some (some 1, 0, X)) (fun q2 => if isRt q2 = true then (if v2 < 1 then b_X10_lose_34 X else (if v2 ≤ 8 then (f_X7_forgetLast X q2 v2).bind fun t3 => some (none, t3.1, t3.2) else b_X10_lose_34 X)) else none)
def b_X10_make_61 (X : JX) : Option (Option Nat × Int32 × JX) := some (some 3, 0, X)
def f_X10_make (X : JX) (v1 : Int32) (v2 : Int32) (v3 : Int32) : Option (Option Nat × Int32 × JX) := (f_X9_isFolder X v1).bind fun t1 => (if ¬ t1 = 0 then (f_X10_isName X v2).bind fun t2 => (if ¬ t2 = 0 then (f_X9_findIn X v1 v2).bind fun t3 => (if ¬ t3 = -1 then b_X10_make_61 X else (f_X9_isFull X ).bind fun t4 => (if t4 = 0 then (f_X9_add X v1 v2 v3).bind fun t5 => (f_X8_tellAbove t5.2 t5.1 (1)).bind fun X6 => some (none, t5.1, X6) else b_X10_make_61 X)) else some (some 2, 0, X)) else some (some 1, 0, X))
def b_X10_mayRead_18 (X : JX) : Option (Option Nat × Int32 × JX) := some (some 1, 0, X)
def f_X10_mayRead (X : JX) (v1 : Int32) (v2 : Int32) : Option (Option Nat × Int32 × JX) := (f_X10_isPerson X v1).bind fun t1 => (if t1 = 0 then b_X10_mayRead_18 X else (f_X9_isThere X v2).bind fun t2 => (if ¬ t2 = 0 then (f_X9_isOpenTo X v1 v2).bind fun t3 => (if okB t3 = true then some (none, t3, X) else none) else b_X10_mayRead_18 X))
def b_X10_move_26 (X : JX) : Option (Option Nat × Int32 × JX) := some (some 1, 0, X)
def b_X10_move_93 (X : JX) : Option (Option Nat × Int32 × JX) := some (some 3, 0, X)
def b_X10_move_188n5 (X : JX) (v1 : Int32) (v7 : Int32) : Option (Option Nat × Int32 × JX) := some (none, v7, X)
def b_X10_move_139n5 (X : JX) (v1 : Int32) (v2 : Int32) (v3 : Int32) : Option (Option Nat × Int32 × JX) := (f_X8_above X v1).bind fun o9 => oC o9 ((f_X9_parentOf X v1).bind fun t11 => (f_X9_put X v1 v2 v3).bind fun X12 => b_X10_move_188n5 X12 v1 t11) (fun q10 => if isRt q10 = true then (f_X9_parentOf X v1).bind fun t13 => (f_X9_put X v1 v2 v3).bind fun X14 => (f_X7_tell X14 q10 (3) v1).bind fun X15 => b_X10_move_188n5 X15 v1 t13 else none)
def b_X10_move_188 (X : JX) (v1 : Int32) (q5 : Nat) (v7 : Int32) : Option (Option Nat × Int32 × JX) := (f_X7_tell X q5 (1) v1).bind fun X23 => some (none, v7, X23)
def b_X10_move_139 (X : JX) (v1 : Int32) (v2 : Int32) (v3 : Int32) (q5 : Nat) : Option (Option Nat × Int32 × JX) := (f_X8_above X v1).bind fun o16 => oC o16 ((f_X9_parentOf X v1).bind fun t18 => (f_X9_put X v1 v2 v3).bind fun X19 => b_X10_move_188 X19 v1 q5 t18) (fun q17 => if isRt q17 = true then (f_X9_parentOf X v1).bind fun t20 => (f_X9_put X v1 v2 v3).bind fun X21 => (if q17 = q5 then b_X10_move_188 X21 v1 q5 t20 else (f_X7_tell X21 q17 (3) v1).bind fun X22 => b_X10_move_188 X22 v1 q5 t20) else none)
def b_X10_move_103 (X : JX) (v1 : Int32) (v2 : Int32) (v3 : Int32) : Option (Option Nat × Int32 × JX) := (f_X8_holding X v2).bind fun o6 => oC o6 (b_X10_move_139n5 X v1 v2 v3) (fun q7 => if isRt q7 = true then (f_X8_hasAtOrBelow X v1).bind fun t8 => (if t8 = 0 then b_X10_move_139 X v1 v2 v3 q7 else some (some 3, 0, X)) else none)
def f_X10_move (X : JX) (v1 : Int32) (v2 : Int32) (v3 : Int32) : Option (Option Nat × Int32 × JX) := (if v1 = 0 then b_X10_move_26 X else (f_X9_isThere X v1).bind fun t1 => (if t1 = 0 then b_X10_move_26 X else (f_X9_isFolder X v2).bind fun t2 => (if ¬ t2 = 0 then (f_X10_isName X v3).bind fun t3 => (if ¬ t3 = 0 then (f_X9_findIn X v2 v3).bind fun t4 => (if v2 = v1 then b_X10_move_93 X else (f_X9_isBelow X v2 v1).bind fun t5 => (if ¬ t5 = 0 then b_X10_move_93 X else (if t4 = -1 then b_X10_move_103 X v1 v2 v3 else (if t4 = v1 then b_X10_move_103 X v1 v2 v3 else b_X10_move_93 X)))) else some (some 2, 0, X)) else b_X10_move_26 X)))
def f_X10_nodes (X : JX) : Option Int32 := (f_X9_countThere X ).bind fun t1 => some t1
def f_X10_notices (X : JX) (v1 : Int32) : Option (Option Nat × Int32 × JX) := (f_X8_find X v1).bind fun o1 => oC o1 (some (some 1, 0, X)) (fun q2 => if isRt q2 = true then (f_X7_countOrFlood X q2).bind fun t3 => some (none, t3, X) else none)
def b_X10_pass_12 (X : JX) : Option (Option Nat × Int32 × JX) := some (some 2, 0, X)
def f_X10_pass (X : JX) (v1 : Int32) : Option (Option Nat × Int32 × JX) := (if v1 < 1 then b_X10_pass_12 X else (if v1 ≤ 1000 then (if ((X (0) 6) + v1) ≤ 100000 then nV ((X (0) 6) / (60)) fun t1 => nX (pX X (0) (upd (X (0)) 6 ((X (0) 6) + v1))) fun X2 => (if ((X2 (0) 6) / (60)) = t1 then some (none, (X2 (0) 6), X2) else nX (pX X2 (0) (upd (X2 (0)) 8 (0))) fun X3 => some (none, (X3 (0) 6), X3)) else some (some 3, 0, X)) else b_X10_pass_12 X))
def b_X10_people_31 (X : JX) : Option (Option Nat × Int32 × JX) := some (some 2, 0, X)
def f_X10_people (X : JX) (v1 : Int32) (v2 : Int32) : Option (Option Nat × Int32 × JX) := (f_X9_isThere X v1).bind fun t1 => (if ¬ t1 = 0 then (if v2 < 0 then b_X10_people_31 X else (if v2 ≤ 15 then (f_X9_peopleOf X v1).bind fun t2 => (f_X9_setPeople X v1 v2).bind fun X3 => some (none, t2, X3) else b_X10_people_31 X)) else some (some 1, 0, X))
def b_X10_remove_15 (X : JX) : Option (Option Nat × Int32 × JX) := some (some 1, 0, X)
def f_X10_remove (X : JX) (v1 : Int32) : Option (Option Nat × Int32 × JX) := (if v1 = 0 then b_X10_remove_15 X else (f_X9_isThere X v1).bind fun t1 => (if ¬ t1 = 0 then (f_X8_tellAbove X v1 (3)).bind fun X2 => (f_X9_takeAway X2 v1).bind fun t3 => (f_X8_endGone t3.2 ).bind fun t4 => (if t4.1 = 0 then some (none, t3.1, t4.2) else (f_X4_lookAtAllEntries t4.2 ).bind fun X5 => some (none, t3.1, X5)) else b_X10_remove_15 X))
def f_X10_segments (X : JX) : Option Int32 := (f_X4_countSegments X ).bind fun t1 => some t1
def f_X10_stale (X : JX) : Option Int32 := (f_X2_countStale X ).bind fun t1 => some t1
def f_X10_twice (X : JX) (v1 : Int32) : Option (Option Nat × Int32 × JX) := (f_X8_find X v1).bind fun o1 => oC o1 (some (some 1, 0, X)) (fun q2 => if isRt q2 = true then (f_X7_hasNotices X q2).bind fun t3 => (if ¬ t3 = 0 then (f_X7_tellLastAgain X q2).bind fun X4 => (f_X7_countOrFlood X4 q2).bind fun t5 => some (none, t5, X4) else some (some 3, 0, X)) else none)
def b_X10_watch_87 (X : JX) : Option (Option Nat × Int32 × JX) := some (some 3, 0, X)
def f_X10_watch (X : JX) (v1 : Int32) : Option (Option Nat × Int32 × JX) := (f_X9_isFolder X v1).bind fun t1 => (if ¬ t1 = 0 then (f_X8_find X v1).bind fun o2 => oC o2 ((f_X8_isFull X ).bind fun t4 => (if ¬ t4 = 0 then b_X10_watch_87 X else (f_X8_holding X v1).bind fun o5 => oC o5 ((f_X8_hasAtOrBelow X v1).bind fun t7 => (if t7 = 0 then (f_X8_add X v1).bind fun X8 => (f_X8_count X8 ).bind fun t9 => some (none, t9, X8) else b_X10_watch_87 X)) (fun q6 => if isRt q6 = true then b_X10_watch_87 X else none))) (fun q3 => if isRt q3 = true then (f_X8_end X v1).bind fun X10 => (f_X4_lookAtAllEntries X10 ).bind fun X11 => (f_X8_count X11 ).bind fun t12 => some (none, t12, X11) else none) else some (some 1, 0, X))
def b_X10_work_12 (X : JX) : Option (Option Nat × Int32 × JX) := some (some 2, 0, X)
def f_X10_work (X : JX) (v1 : Int32) : Option (Option Nat × Int32 × JX) := (if v1 < 1 then b_X10_work_12 X else (if v1 ≤ 500 then (if ¬ (X (0) 7) = 0 then (f_X4_doSteps X (if ((20) - (X (0) 8)) < v1 then ((20) - (X (0) 8)) else v1)).bind fun t1 => nX (pX t1.2 (0) (upd (t1.2 (0)) 8 ((t1.2 (0) 8) + t1.1))) fun X2 => some (none, t1.1, X2) else (f_X4_doSteps X v1).bind fun t3 => some (none, t3.1, t3.2)) else b_X10_work_12 X))
def b_X10_write_74 (X : JX) : Option (Option Nat × Int32 × JX) := some (some 3, 0, X)
def b_X10_write_50 (X : JX) (v1 : Int32) (v2 : Int32) : Option (Option Nat × Int32 × JX) := (f_X9_isLocked X v1).bind fun t3 => (if ¬ t3 = 0 then b_X10_write_74 X else (f_X9_lengthOf X v1).bind fun t4 => (if t4 < 20 then (f_X9_append X v1 v2).bind fun X5 => (f_X8_tellAbove X5 v1 (2)).bind fun X6 => (f_X9_editionOf X6 v1).bind fun t7 => some (none, t7, X6) else b_X10_write_74 X))
def f_X10_write (X : JX) (v1 : Int32) (v2 : Int32) : Option (Option Nat × Int32 × JX) := (f_X9_isFile X v1).bind fun t1 => (if ¬ t1 = 0 then (f_X10_isWord X v2).bind fun t2 => (if ¬ t2 = 0 then b_X10_write_50 X v1 v2 else (if v2 = -2 then b_X10_write_50 X v1 v2 else (if v2 = -3 then b_X10_write_50 X v1 v2 else some (some 2, 0, X)))) else some (some 1, 0, X))
def lb_X11_takesAct_12 (rec12 : JX → Int32 → Option JX) (X : JX) (v2 : Int32) : Option JX := (if (X (0) 30) ≤ v2 then some X else (if okI (v2 + (1)) 60 = true then (if okI v2 60 = true then nX (pX X (25) (upd (X (25)) v2.toNatClampNeg (X (25) (v2 + (1)).toNatClampNeg))) fun X2 => (if okI (v2 + (1)) 60 = true then (if okI v2 60 = true then nX (pX X2 (26) (upd (X2 (26)) v2.toNatClampNeg (X2 (26) (v2 + (1)).toNatClampNeg))) fun X3 => (if okI (v2 + (1)) 60 = true then (if okI v2 60 = true then nX (pX X3 (27) (upd (X3 (27)) v2.toNatClampNeg (vp_nar .boolean (X3 (27) (v2 + (1)).toNatClampNeg)))) fun X4 => nV (v2 + 1) fun t5 => rec12 X4 t5 else none) else none) else none) else none) else none) else none))
def l_X11_takesAct_12 : JX → Int32 → Option JX := loop2 (lb_X11_takesAct_12 ) 1000
def f_X11_takesAct (X : JX) (v1 : Int32) : Option JX := nX (pX X (0) (upd (X (0)) 30 ((X (0) 30) - (1)))) fun X1 => l_X11_takesAct_12 X1 v1
def b_X11_isBelow_31 (rec10 : Int32 → Int32 → Option Int32) (X : JX) (v2 : Int32) (v4 : Int32) (s0 : Int32) : Option Int32 := (if okI v4 60 = true then nV (X (3) v4.toNatClampNeg) fun t2 => rec10 s0 t2 else none)
def lb_X11_isBelow_10 (X : JX) (v2 : Int32) (rec10 : Int32 → Int32 → Option Int32) (v3 : Int32) (v4 : Int32) : Option Int32 := (if v4 = -1 then (if okB v3 = true then some v3 else none) else (if ¬ v3 = 0 then b_X11_isBelow_31 rec10 X v2 v4 (1) else (if ¬ v4 = v2 then b_X11_isBelow_31 rec10 X v2 v4 (0) else b_X11_isBelow_31 rec10 X v2 v4 (1))))
def l_X11_isBelow_10 (X : JX) (v2 : Int32) : Int32 → Int32 → Option Int32 := loop2 (lb_X11_isBelow_10 X v2) 1000
def f_X11_isBelow (X : JX) (v1 : Int32) (v2 : Int32) : Option Int32 := (if okI v1 60 = true then nV (X (3) v1.toNatClampNeg) fun t1 => l_X11_isBelow_10 X v2 (0) t1 else none)
def b_X11_over_40 (rec4 : Int32 → Int32 → Option Int32) (X : JX) (v1 : Int32) (v3 : Int32) (s0 : Int32) : Option Int32 := nV (v3 + 1) fun t3 => rec4 s0 t3
def lb_X11_over_4 (X : JX) (v1 : Int32) (rec4 : Int32 → Int32 → Option Int32) (v2 : Int32) (v3 : Int32) : Option Int32 := (if (X (0) 12) ≤ v3 then some v2 else (if okI v1 60 = true then (if (X (1) v1.toNatClampNeg) = 0 then some v2 else (if okI v3 4 = true then (f_X11_isBelow X v1 (X (10) v3.toNatClampNeg)).bind fun t2 => (if t2 = 0 then b_X11_over_40 rec4 X v1 v3 v2 else b_X11_over_40 rec4 X v1 v3 v3) else none)) else none))
def l_X11_over_4 (X : JX) (v1 : Int32) : Int32 → Int32 → Option Int32 := loop2 (lb_X11_over_4 X v1) 1000
def f_X11_over (X : JX) (v1 : Int32) : Option Int32 := nV (-1) fun t1 => l_X11_over_4 X v1 t1 (0)
def b_X11_rootAt_27 (rec4 : Int32 → Int32 → Option Int32) (X : JX) (v1 : Int32) (v3 : Int32) (s0 : Int32) : Option Int32 := nV (v3 + 1) fun t2 => rec4 s0 t2
def lb_X11_rootAt_4 (X : JX) (v1 : Int32) (rec4 : Int32 → Int32 → Option Int32) (v2 : Int32) (v3 : Int32) : Option Int32 := (if (X (0) 12) ≤ v3 then some v2 else (if okI v3 4 = true then (if ¬ (X (10) v3.toNatClampNeg) = v1 then b_X11_rootAt_27 rec4 X v1 v3 v2 else b_X11_rootAt_27 rec4 X v1 v3 v3) else none))
def l_X11_rootAt_4 (X : JX) (v1 : Int32) : Int32 → Int32 → Option Int32 := loop2 (lb_X11_rootAt_4 X v1) 1000
def f_X11_rootAt (X : JX) (v1 : Int32) : Option Int32 := nV (-1) fun t1 => l_X11_rootAt_4 X v1 t1 (0)
def b_X11_liesBelow_70 (rec23 : Int32 → Int32 → Option Int32) (X : JX) (v2 : Int32) (v4 : Int32) (s0 : Int32) : Option Int32 := nV (v4 + 1) fun t2 => rec23 s0 t2
def lb_X11_liesBelow_23 (X : JX) (v2 : Int32) (rec23 : Int32 → Int32 → Option Int32) (v3 : Int32) (v4 : Int32) : Option Int32 := (if 60 ≤ v4 then some (0) else (if v3 = -1 then some (0) else (if ¬ v3 = v2 then (f_X11_rootAt X v3).bind fun t1 => (if ¬ t1 = -1 then b_X11_liesBelow_70 rec23 X v2 v4 (-1) else (if okI v3 60 = true then (if (X (19) v3.toNatClampNeg) = 0 then b_X11_liesBelow_70 rec23 X v2 v4 (-1) else (if okI v3 60 = true then b_X11_liesBelow_70 rec23 X v2 v4 (X (20) v3.toNatClampNeg) else none)) else none)) else some (1))))
def l_X11_liesBelow_23 (X : JX) (v2 : Int32) : Int32 → Int32 → Option Int32 := loop2 (lb_X11_liesBelow_23 X v2) 1000
def b_X11_liesBelow_19 (X : JX) (v2 : Int32) (s0 : Int32) : Option Int32 := l_X11_liesBelow_23 X v2 s0 (0)
def f_X11_liesBelow (X : JX) (v1 : Int32) (v2 : Int32) : Option Int32 := (if okI v1 60 = true then (if (X (19) v1.toNatClampNeg) = 0 then b_X11_liesBelow_19 X v2 (-1) else (if okI v1 60 = true then b_X11_liesBelow_19 X v2 (X (20) v1.toNatClampNeg) else none)) else none)
def b_X11_kills_39 (rec2 : JX → Int32 → Option JX) (X : JX) (v1 : Int32) (v2 : Int32) (s0 : Int32) (s1 : Int32) : Option JX := (if okI s1 600 = true then nX (pX X (30) (upd (X (30)) s1.toNatClampNeg (vp_nar .boolean s0))) fun X1 => nV (v2 + 1) fun t2 => rec2 X1 t2 else none)
def lb_X11_kills_2 (v1 : Int32) (rec2 : JX → Int32 → Option JX) (X : JX) (v2 : Int32) : Option JX := (if (X (0) 37) ≤ v2 then some X else (if okI v2 600 = true then (if ¬ (X (30) v2.toNatClampNeg) = 0 then b_X11_kills_39 rec2 X v1 v2 (1) v2 else (if okI v2 600 = true then (if ¬ (X (29) v2.toNatClampNeg) = v1 then b_X11_kills_39 rec2 X v1 v2 (0) v2 else b_X11_kills_39 rec2 X v1 v2 (1) v2) else none)) else none))
def l_X11_kills_2 (v1 : Int32) : JX → Int32 → Option JX := loop2 (lb_X11_kills_2 v1) 1000
def f_X11_kills (X : JX) (v1 : Int32) : Option JX := l_X11_kills_2 v1 X (0)
def b_X11_forgets_88 (rec52 : JX → Int32 → Option JX) (X : JX) (v2 : Int32) : Option JX := nV (v2 + 1) fun t8 => rec52 X t8
def lb_X11_forgets_52 (rec52 : JX → Int32 → Option JX) (X : JX) (v2 : Int32) : Option JX := (if (X (0) 2) ≤ v2 then some X else (if okI v2 60 = true then (if (X (32) v2.toNatClampNeg) = 0 then b_X11_forgets_88 rec52 X v2 else (if okI v2 60 = true then nX (pX X (19) (upd (X (19)) v2.toNatClampNeg (vp_nar .boolean (0)))) fun X3 => (if okI v2 60 = true then nX (pX X3 (31) (upd (X3 (31)) v2.toNatClampNeg (vp_nar .boolean (0)))) fun X4 => (f_X11_kills X4 v2).bind fun X5 => b_X11_forgets_88 rec52 X5 v2 else none) else none)) else none))
def l_X11_forgets_52 : JX → Int32 → Option JX := loop2 (lb_X11_forgets_52 ) 1000
def b_X11_forgets_43 (rec2 : JX → Int32 → Option JX) (X : JX) (v1 : Int32) (v2 : Int32) (s0 : Int32) (s1 : Int32) : Option JX := (if okI s1 60 = true then nX (pX X (32) (upd (X (32)) s1.toNatClampNeg (vp_nar .boolean s0))) fun X6 => nV (v2 + 1) fun t7 => rec2 X6 t7 else none)
def lb_X11_forgets_2 (v1 : Int32) (rec2 : JX → Int32 → Option JX) (X : JX) (v2 : Int32) : Option JX := (if (X (0) 2) ≤ v2 then l_X11_forgets_52 X (0) else (if v2 = v1 then b_X11_forgets_43 rec2 X v1 v2 (1) v2 else (f_X11_rootAt X v1).bind fun t1 => (if ¬ t1 = -1 then b_X11_forgets_43 rec2 X v1 v2 (0) v2 else (f_X11_liesBelow X v2 v1).bind fun t2 => (if t2 = 0 then b_X11_forgets_43 rec2 X v1 v2 (0) v2 else b_X11_forgets_43 rec2 X v1 v2 (1) v2))))
def l_X11_forgets_2 (v1 : Int32) : JX → Int32 → Option JX := loop2 (lb_X11_forgets_2 v1) 1000
def f_X11_forgets (X : JX) (v1 : Int32) : Option JX := l_X11_forgets_2 v1 X (0)
def b_X11_adds_72 (X : JX) (v2 : Int32) (v3 : Int32) : Option JX := (if okI v3 60 = true then nX (pX X (26) (upd (X (26)) v3.toNatClampNeg v2)) fun X6 => some X6 else none)
def b_X11_adds_31 (rec5 : Int32 → Int32 → Option JX) (X : JX) (v1 : Int32) (v2 : Int32) (v4 : Int32) (s0 : Int32) : Option JX := nV (v4 + 1) fun t7 => rec5 s0 t7
def lb_X11_adds_5 (X : JX) (v1 : Int32) (v2 : Int32) (rec5 : Int32 → Int32 → Option JX) (v3 : Int32) (v4 : Int32) : Option JX := (if (X (0) 30) ≤ v4 then (if ¬ v3 = -1 then b_X11_adds_72 X v2 v3 else nV (X (0) 30) fun t2 => (if okI t2 60 = true then nX (pX X (25) (upd (X (25)) t2.toNatClampNeg v1)) fun X3 => (if okI t2 60 = true then nX (pX X3 (27) (upd (X3 (27)) t2.toNatClampNeg (vp_nar .boolean (0)))) fun X4 => nX (pX X4 (0) (upd (X4 (0)) 30 ((X4 (0) 30) + (1)))) fun X5 => b_X11_adds_72 X5 v2 t2 else none) else none)) else (if okI v4 60 = true then (if ¬ (X (25) v4.toNatClampNeg) = v1 then b_X11_adds_31 rec5 X v1 v2 v4 v3 else b_X11_adds_31 rec5 X v1 v2 v4 v4) else none))
def l_X11_adds_5 (X : JX) (v1 : Int32) (v2 : Int32) : Int32 → Int32 → Option JX := loop2 (lb_X11_adds_5 X v1 v2) 1000
def f_X11_adds (X : JX) (v1 : Int32) (v2 : Int32) : Option JX := nV (-1) fun t1 => l_X11_adds_5 X v1 v2 t1 (0)
def f_X11_places (X : JX) (v1 : Int32) : Option JX := (if okI v1 60 = true then nX (pX X (19) (upd (X (19)) v1.toNatClampNeg (vp_nar .boolean (1)))) fun X1 => (if okI v1 60 = true then (if okI v1 60 = true then nX (pX X1 (20) (upd (X1 (20)) v1.toNatClampNeg (X1 (3) v1.toNatClampNeg))) fun X2 => (if okI v1 60 = true then (if okI v1 60 = true then nX (pX X2 (21) (upd (X2 (21)) v1.toNatClampNeg (vp_nar .char (X2 (4) v1.toNatClampNeg)))) fun X3 => some X3 else none) else none) else none) else none) else none)
def b_X11_takesWords_199 (rec103 : JX → Int32 → Int32 → Option JX) (X : JX) (v1 : Int32) (v3 : Int32) (v5 : Int32) (s0 : Int32) (s1 : Int32) : Option JX := nV (s1 + s0) fun t10 => nV (v5 + 1) fun t11 => rec103 X t10 t11
def b_X11_takesWords_169 (rec103 : JX → Int32 → Int32 → Option JX) (X : JX) (v1 : Int32) (v3 : Int32) (v4 : Int32) (v5 : Int32) (v6 : Int32) : Option JX := (if ¬ v6 = -2 then (if ¬ v6 = -3 then b_X11_takesWords_199 rec103 X v1 v3 v5 (0) v4 else (if v4 ≤ 0 then b_X11_takesWords_199 rec103 X v1 v3 v5 (0) v4 else b_X11_takesWords_199 rec103 X v1 v3 v5 (-1) v4)) else b_X11_takesWords_199 rec103 X v1 v3 v5 (1) v4)
def lb_X11_takesWords_103 (v1 : Int32) (v3 : Int32) (rec103 : JX → Int32 → Int32 → Option JX) (X : JX) (v4 : Int32) (v5 : Int32) : Option JX := (if v3 ≤ v5 then some X else (if okI (((20) * v1) + v5) 1200 = true then nV (X (7) (((20) * v1) + v5).toNatClampNeg) fun t5 => (if t5 < 0 then b_X11_takesWords_169 rec103 X v1 v3 v4 v5 t5 else (if (X (0) 28) < v4 then b_X11_takesWords_169 rec103 X v1 v3 v4 v5 t5 else (if (X (0) 29) ≤ (X (0) 44) then b_X11_takesWords_169 rec103 X v1 v3 v4 v5 t5 else (if okI (X (0) 44) 20 = true then nX (pX X (33) (upd (X (33)) (X (0) 44).toNatClampNeg t5)) fun X6 => nX (pX X6 (0) (upd (X6 (0)) 44 ((X6 (0) 44) + (1)))) fun X7 => b_X11_takesWords_169 rec103 X7 v1 v3 v4 v5 t5 else none)))) else none))
def l_X11_takesWords_103 (v1 : Int32) (v3 : Int32) : JX → Int32 → Int32 → Option JX := loop3 (lb_X11_takesWords_103 v1 v3) 1000
def b_X11_takesWords_84 (rec19 : Int32 → Int32 → Int32 → Option JX) (X : JX) (v1 : Int32) (v3 : Int32) (v4 : Int32) (s0 : Int32) (s1 : Int32) : Option JX := nV (s1 + s0) fun t8 => nV (v4 + (-1)) fun t9 => rec19 t8 v3 t9
def b_X11_takesWords_55 (rec19 : Int32 → Int32 → Int32 → Option JX) (X : JX) (v1 : Int32) (v2 : Int32) (v4 : Int32) (v5 : Int32) (s0 : Int32) : Option JX := (if ¬ v5 = -3 then (if ¬ v5 = -2 then b_X11_takesWords_84 rec19 X v1 s0 v4 (0) v2 else (if v2 ≤ 0 then b_X11_takesWords_84 rec19 X v1 s0 v4 (0) v2 else b_X11_takesWords_84 rec19 X v1 s0 v4 (-1) v2)) else b_X11_takesWords_84 rec19 X v1 s0 v4 (1) v2)
def lb_X11_takesWords_19 (X : JX) (v1 : Int32) (rec19 : Int32 → Int32 → Int32 → Option JX) (v2 : Int32) (v3 : Int32) (v4 : Int32) : Option JX := (if v4 < 0 then nX (pX X (0) (upd (X (0)) 44 (0))) fun X3 => l_X11_takesWords_103 v1 v3 X3 (0) (0) else (if okI (((20) * v1) + v4) 1200 = true then nV (X (7) (((20) * v1) + v4).toNatClampNeg) fun t4 => (if ¬ t4 = -2 then b_X11_takesWords_55 rec19 X v1 v2 v4 t4 v3 else (if ¬ v2 = 0 then b_X11_takesWords_55 rec19 X v1 v2 v4 t4 v3 else b_X11_takesWords_55 rec19 X v1 v2 v4 t4 v4)) else none))
def l_X11_takesWords_19 (X : JX) (v1 : Int32) : Int32 → Int32 → Int32 → Option JX := loop3 (lb_X11_takesWords_19 X v1) 1000
def f_X11_takesWords (X : JX) (v1 : Int32) : Option JX := (if okI v1 60 = true then nV (X (6) v1.toNatClampNeg) fun t1 => (if okI v1 60 = true then nV ((X (6) v1.toNatClampNeg) - (1)) fun t2 => l_X11_takesWords_19 X v1 (0) t1 t2 else none) else none)
def lb_X11_reads_29 (v1 : Int32) (rec29 : JX → Int32 → Option JX) (X : JX) (v2 : Int32) : Option JX := (if (X (0) 44) ≤ v2 then (f_X11_kills X v1).bind fun X4 => (if okI v1 60 = true then nX (pX X4 (31) (upd (X4 (31)) v1.toNatClampNeg (vp_nar .boolean (1)))) fun X5 => some X5 else none) else (if okI v2 20 = true then (if okI (((20) * v1) + v2) 1200 = true then nX (pX X (24) (upd (X (24)) (((20) * v1) + v2).toNatClampNeg (X (33) v2.toNatClampNeg))) fun X6 => nV (v2 + 1) fun t7 => rec29 X6 t7 else none) else none))
def l_X11_reads_29 (v1 : Int32) : JX → Int32 → Option JX := loop2 (lb_X11_reads_29 v1) 1000
def f_X11_reads (X : JX) (v1 : Int32) : Option JX := (f_X11_takesWords X v1).bind fun X1 => (if okI v1 60 = true then (if okI v1 60 = true then nX (pX X1 (22) (upd (X1 (22)) v1.toNatClampNeg (X1 (5) v1.toNatClampNeg))) fun X2 => (if okI v1 60 = true then nX (pX X2 (23) (upd (X2 (23)) v1.toNatClampNeg (X2 (0) 44))) fun X3 => l_X11_reads_29 v1 X3 (0) else none) else none) else none)
def b_X11_acts_179 (X : JX) (v2 : Int32) (s0 : Int32) : Option JX := (f_X11_places X v2).bind fun X11 => (if ¬ s0 = 0 then some X11 else (f_X11_reads X11 v2).bind fun X12 => some X12)
def b_X11_acts_111 (rec74 : JX → Int32 → Option JX) (X : JX) (v2 : Int32) (v4 : Int32) : Option JX := nV (v4 + 1) fun t14 => rec74 X t14
def lb_X11_acts_74 (v2 : Int32) (rec74 : JX → Int32 → Option JX) (X : JX) (v4 : Int32) : Option JX := (if (X (0) 2) ≤ v4 then some X else (if okI v4 60 = true then (if (X (1) v4.toNatClampNeg) = 0 then b_X11_acts_111 rec74 X v2 v4 else (if okI v4 60 = true then (if ¬ (X (3) v4.toNatClampNeg) = v2 then b_X11_acts_111 rec74 X v2 v4 else (f_X11_adds X v4 (1)).bind fun X13 => b_X11_acts_111 rec74 X13 v2 v4) else none)) else none))
def l_X11_acts_74 (v2 : Int32) : JX → Int32 → Option JX := loop2 (lb_X11_acts_74 v2) 1000
def f_X11_acts (X : JX) (v1 : Int32) : Option JX := (if okI v1 60 = true then nV (X (25) v1.toNatClampNeg) fun t1 => (if okI v1 60 = true then nV (X (26) v1.toNatClampNeg) fun t2 => (f_X11_takesAct X v1).bind fun X3 => (f_X11_over X3 t1).bind fun t4 => (if ¬ t4 = -1 then (if ¬ t2 = 2 then (if okI t1 60 = true then (if (X3 (2) t1.toNatClampNeg) = 0 then (if okI t1 60 = true then (if (X3 (8) t1.toNatClampNeg) = 0 then (if okI t1 60 = true then (if (X3 (19) t1.toNatClampNeg) = 0 then b_X11_acts_179 X3 t1 (0) else (if okI t1 60 = true then (if okI t1 60 = true then (if ¬ (X3 (22) t1.toNatClampNeg) = (X3 (5) t1.toNatClampNeg) then b_X11_acts_179 X3 t1 (0) else b_X11_acts_179 X3 t1 (1)) else none) else none)) else none) else (f_X11_adds X3 t1 (1)).bind fun X5 => (if okI ((X5 (0) 30) - (1)) 60 = true then nX (pX X5 (27) (upd (X5 (27)) ((X5 (0) 30) - (1)).toNatClampNeg (vp_nar .boolean (1)))) fun X6 => some X6 else none)) else none) else (f_X11_places X3 t1).bind fun X7 => (if okI t1 60 = true then nX (pX X7 (22) (upd (X7 (22)) t1.toNatClampNeg (0))) fun X8 => l_X11_acts_74 t1 X8 (0) else none)) else none) else (f_X11_adds X3 t1 (1)).bind fun X9 => some X9) else (f_X11_forgets X3 t1).bind fun X10 => some X10) else none) else none)
def f_X11_acts_ (X : JX) : Option (Int32 × JX) := nX (pX X (0) (upd (X (0)) 0 (0))) fun X1 => some ((X1 (0) 30), X1)
def f_X11_in (X : JX) (v0 : Int32) (v1 : Int32) (v2 : Int32) : Option Int32 := (if v0 < v1 then some (0) else (if v2 < v0 then some (0) else some (1)))
def f_X11_fails (X : JX) (v1 : Int32) : Option (Int32 × JX) := nX (pX X (0) (upd (X (0)) 0 v1)) fun X1 => some (0, X1)
def f_X11_areWords (X : JX) (v1 : Int32) (v2 : Int32) : Option Int32 := (f_X11_in X v1 (0) (99)).bind fun t1 => (if t1 = 0 then some (0) else (f_X11_in X v2 (-1) (99)).bind fun t2 => (if t2 = 0 then some (0) else some (1)))
def b_X11_often_38 (rec5 : Int32 → Int32 → Option Int32) (X : JX) (v1 : Int32) (v2 : Int32) (v4 : Int32) (s0 : Int32) (s1 : Int32) : Option Int32 := nV (s1 + s0) fun t1 => nV (v4 + 1) fun t2 => rec5 t1 t2
def lb_X11_often_5 (X : JX) (v1 : Int32) (v2 : Int32) (rec5 : Int32 → Int32 → Option Int32) (v3 : Int32) (v4 : Int32) : Option Int32 := (if okI v1 60 = true then (if (X (23) v1.toNatClampNeg) ≤ v4 then some v3 else (if okI (((20) * v1) + v4) 1200 = true then (if ¬ (X (24) (((20) * v1) + v4).toNatClampNeg) = v2 then b_X11_often_38 rec5 X v1 v2 v4 (0) v3 else b_X11_often_38 rec5 X v1 v2 v4 (1) v3) else none)) else none)
def l_X11_often_5 (X : JX) (v1 : Int32) (v2 : Int32) : Int32 → Int32 → Option Int32 := loop2 (lb_X11_often_5 X v1 v2) 1000
def f_X11_often (X : JX) (v1 : Int32) (v2 : Int32) : Option Int32 := l_X11_often_5 X v1 v2 (0) (0)
def b_X11_has_41 (X : JX) : Option Int32 := some (1)
def f_X11_has (X : JX) (v1 : Int32) (v2 : Int32) (v3 : Int32) : Option Int32 := (if okI v1 60 = true then (if (X (19) v1.toNatClampNeg) = 0 then some (0) else (if okI v1 60 = true then (if ¬ (X (2) v1.toNatClampNeg) = 0 then some (0) else (f_X11_often X v1 v2).bind fun t1 => (if t1 ≤ 0 then some (0) else (if v3 = -1 then b_X11_has_41 X else (f_X11_often X v1 v3).bind fun t2 => (if t2 ≤ 0 then some (0) else b_X11_has_41 X)))) else none)) else none)
def b_X11_mayReadAt_35 (rec5 : Int32 → Int32 → Option Int32) (X : JX) (v1 : Int32) (v4 : Int32) (s0 : Int32) : Option Int32 := (if okI v4 60 = true then nV (X (3) v4.toNatClampNeg) fun t1 => rec5 s0 t1 else none)
def lb_X11_mayReadAt_5 (X : JX) (v1 : Int32) (rec5 : Int32 → Int32 → Option Int32) (v3 : Int32) (v4 : Int32) : Option Int32 := (if v4 = -1 then (if okB v3 = true then some v3 else none) else (if v3 = 0 then b_X11_mayReadAt_35 rec5 X v1 v4 (0) else (if okI v4 60 = true then (if ¬ (((X (9) v4.toNatClampNeg) >>> (v1 &&& 31)) &&& (1)) = 1 then b_X11_mayReadAt_35 rec5 X v1 v4 (0) else b_X11_mayReadAt_35 rec5 X v1 v4 (1)) else none)))
def l_X11_mayReadAt_5 (X : JX) (v1 : Int32) : Int32 → Int32 → Option Int32 := loop2 (lb_X11_mayReadAt_5 X v1) 1000
def f_X11_mayReadAt (X : JX) (v1 : Int32) (v2 : Int32) : Option Int32 := l_X11_mayReadAt_5 X v1 (1) v2
def b_X11_isAnswer_36 (X : JX) (v1 : Int32) (v2 : Int32) : Option Int32 := (f_X11_mayReadAt X v2 v1).bind fun t3 => (if t3 = 0 then some (0) else some (1))
def f_X11_isAnswer (X : JX) (v1 : Int32) (v2 : Int32) (v3 : Int32) (v4 : Int32) (v5 : Int32) : Option Int32 := (if okI v1 60 = true then (if (X (1) v1.toNatClampNeg) = 0 then some (0) else (f_X11_has X v1 v3 v4).bind fun t1 => (if t1 = 0 then some (0) else (if v5 = -1 then b_X11_isAnswer_36 X v1 v2 else (f_X11_liesBelow X v1 v5).bind fun t2 => (if t2 = 0 then some (0) else b_X11_isAnswer_36 X v1 v2)))) else none)
def b_X11_score_87 (rec30 : Int32 → Int32 → Option Int32) (X : JX) (v1 : Int32) (v2 : Int32) (v3 : Int32) (v4 : Int32) (v6 : Int32) (s0 : Int32) : Option Int32 := nV (v6 + 1) fun t4 => rec30 s0 t4
def lb_X11_score_30 (X : JX) (v1 : Int32) (v2 : Int32) (v3 : Int32) (v4 : Int32) (rec30 : Int32 → Int32 → Option Int32) (v5 : Int32) (v6 : Int32) : Option Int32 := (if okI v1 60 = true then (if (X (23) v1.toNatClampNeg) ≤ (v6 + (1)) then (if v5 = 0 then some v4 else some (v4 + (10))) else (if ¬ v5 = 0 then b_X11_score_87 rec30 X v1 v2 v3 v4 v6 (1) else (if okI (((20) * v1) + v6) 1200 = true then (if ¬ (X (24) (((20) * v1) + v6).toNatClampNeg) = v2 then b_X11_score_87 rec30 X v1 v2 v3 v4 v6 (0) else (if okI ((((20) * v1) + v6) + (1)) 1200 = true then (if ¬ (X (24) ((((20) * v1) + v6) + (1)).toNatClampNeg) = v3 then b_X11_score_87 rec30 X v1 v2 v3 v4 v6 (0) else b_X11_score_87 rec30 X v1 v2 v3 v4 v6 (1)) else none)) else none))) else none)
def l_X11_score_30 (X : JX) (v1 : Int32) (v2 : Int32) (v3 : Int32) (v4 : Int32) : Int32 → Int32 → Option Int32 := loop2 (lb_X11_score_30 X v1 v2 v3 v4) 1000
def b_X11_score_21 (X : JX) (v1 : Int32) (v2 : Int32) (v3 : Int32) (s0 : Int32) (s1 : Int32) : Option Int32 := nV (s1 + s0) fun t3 => l_X11_score_30 X v1 v2 v3 t3 (0) (0)
def f_X11_score (X : JX) (v1 : Int32) (v2 : Int32) (v3 : Int32) : Option Int32 := (f_X11_often X v1 v2).bind fun t1 => (if ¬ v3 = -1 then (f_X11_often X v1 v3).bind fun t2 => b_X11_score_21 X v1 v2 v3 t2 t1 else b_X11_score_21 X v1 v2 v3 (0) t1)
def b_X11_answer_189 (rec45 : Int32 → Option (Int32 × JX)) (X : JX) (v1 : Int32) (v2 : Int32) (v3 : Int32) (v4 : Int32) (v5 : Int32) : Option (Int32 × JX) := nV (v5 + 1) fun t8 => rec45 t8
def b_X11_answer_164 (rec45 : Int32 → Option (Int32 × JX)) (rec83 : Int32 → Int32 → Option (Int32 × JX)) (X : JX) (v1 : Int32) (v2 : Int32) (v3 : Int32) (v4 : Int32) (v5 : Int32) (v7 : Int32) (v8 : Int32) (s0 : Int32) (s1 : Int32) : Option (Int32 × JX) := nV (s1 + s0) fun t12 => nV (v8 + 1) fun t13 => rec83 t12 t13
def b_X11_answer_117 (rec45 : Int32 → Option (Int32 × JX)) (rec83 : Int32 → Int32 → Option (Int32 × JX)) (X : JX) (v1 : Int32) (v2 : Int32) (v3 : Int32) (v4 : Int32) (v5 : Int32) (v6 : Int32) (v7 : Int32) (v8 : Int32) (s0 : Int32) : Option (Int32 × JX) := (if s0 = 0 then b_X11_answer_164 rec45 rec83 X v1 v2 v3 v4 v5 v7 v8 (0) v6 else (f_X11_score X v8 v2 v3).bind fun t10 => (if v7 < t10 then b_X11_answer_164 rec45 rec83 X v1 v2 v3 v4 v5 v7 v8 (1) v6 else (f_X11_score X v8 v2 v3).bind fun t11 => (if ¬ t11 = v7 then b_X11_answer_164 rec45 rec83 X v1 v2 v3 v4 v5 v7 v8 (0) v6 else (if v5 ≤ v8 then b_X11_answer_164 rec45 rec83 X v1 v2 v3 v4 v5 v7 v8 (0) v6 else b_X11_answer_164 rec45 rec83 X v1 v2 v3 v4 v5 v7 v8 (1) v6))))
def lb_X11_answer_83 (rec45 : Int32 → Option (Int32 × JX)) (X : JX) (v1 : Int32) (v2 : Int32) (v3 : Int32) (v4 : Int32) (v5 : Int32) (v7 : Int32) (rec83 : Int32 → Int32 → Option (Int32 × JX)) (v6 : Int32) (v8 : Int32) : Option (Int32 × JX) := (if (X (0) 2) ≤ v8 then (if ¬ v6 = v4 then b_X11_answer_189 rec45 X v1 v2 v3 v4 v5 else some ((((100) * v7) + v5), X)) else (if v8 = v5 then b_X11_answer_117 rec45 rec83 X v1 v2 v3 v4 v5 v6 v7 v8 (0) else (f_X11_isAnswer X v8 v1 v2 v3 (-1)).bind fun t9 => (if t9 = 0 then b_X11_answer_117 rec45 rec83 X v1 v2 v3 v4 v5 v6 v7 v8 (0) else b_X11_answer_117 rec45 rec83 X v1 v2 v3 v4 v5 v6 v7 v8 (1))))
def l_X11_answer_83 (rec45 : Int32 → Option (Int32 × JX)) (X : JX) (v1 : Int32) (v2 : Int32) (v3 : Int32) (v4 : Int32) (v5 : Int32) (v7 : Int32) : Int32 → Int32 → Option (Int32 × JX) := loop2 (lb_X11_answer_83 rec45 X v1 v2 v3 v4 v5 v7) 1000
def lb_X11_answer_45 (X : JX) (v1 : Int32) (v2 : Int32) (v3 : Int32) (v4 : Int32) (rec45 : Int32 → Option (Int32 × JX)) (v5 : Int32) : Option (Int32 × JX) := (if (X (0) 2) ≤ v5 then (f_X11_fails X (1)).bind fun t5 => some (t5.1, t5.2) else (f_X11_isAnswer X v5 v1 v2 v3 (-1)).bind fun t6 => (if t6 = 0 then b_X11_answer_189 rec45 X v1 v2 v3 v4 v5 else (f_X11_score X v5 v2 v3).bind fun t7 => l_X11_answer_83 rec45 X v1 v2 v3 v4 v5 t7 (0) (0)))
def l_X11_answer_45 (X : JX) (v1 : Int32) (v2 : Int32) (v3 : Int32) (v4 : Int32) : Int32 → Option (Int32 × JX) := loop1 (lb_X11_answer_45 X v1 v2 v3 v4) 1000
def b_X11_answer_30 (X : JX) (v1 : Int32) (v2 : Int32) (v3 : Int32) (v4 : Int32) (s0 : Int32) : Option (Int32 × JX) := nX (pX X (0) (upd (X (0)) 0 s0)) fun X4 => (if (X4 (0) 0) ≤ 0 then l_X11_answer_45 X4 v1 v2 v3 v4 (0) else some (0, X4))
def f_X11_answer (X : JX) (v1 : Int32) (v2 : Int32) (v3 : Int32) (v4 : Int32) : Option (Int32 × JX) := (f_X11_in X v1 (0) (3)).bind fun t1 => (if ¬ t1 = 0 then (f_X11_areWords X v2 v3).bind fun t2 => (if t2 = 0 then b_X11_answer_30 X v1 v2 v3 v4 (2) else b_X11_answer_30 X v1 v2 v3 v4 (0)) else (f_X11_fails X (1)).bind fun t3 => some (t3.1, t3.2))
def b_X11_canAsk_55 (X : JX) (s0 : Int32) : Option (Int32 × JX) := nX (pX X (0) (upd (X (0)) 0 s0)) fun X4 => (if ¬ (X4 (0) 0) = 0 then some (0, X4) else some (1, X4))
def b_X11_canAsk_29 (X : JX) (v2 : Int32) (v3 : Int32) (s0 : Int32) : Option (Int32 × JX) := (if ¬ s0 = 0 then (f_X11_areWords X v2 v3).bind fun t3 => (if t3 = 0 then b_X11_canAsk_55 X (2) else b_X11_canAsk_55 X (0)) else b_X11_canAsk_55 X (1))
def f_X11_canAsk (X : JX) (v1 : Int32) (v2 : Int32) (v3 : Int32) (v4 : Int32) : Option (Int32 × JX) := (f_X11_in X v1 (0) (3)).bind fun t1 => (if t1 = 0 then b_X11_canAsk_29 X v2 v3 (0) else (f_X11_in X v4 (-1) ((X (0) 2) - (1))).bind fun t2 => (if t2 = 0 then b_X11_canAsk_29 X v2 v3 (0) else b_X11_canAsk_29 X v2 v3 (1)))
def b_X11_answers_52 (rec17 : Int32 → Int32 → Option (Int32 × JX)) (X : JX) (v1 : Int32) (v2 : Int32) (v3 : Int32) (v4 : Int32) (v5 : Int32) (v7 : Int32) (s0 : Int32) (s1 : Int32) : Option (Int32 × JX) := nV (s1 + s0) fun t3 => nV (v7 + 1) fun t4 => rec17 t3 t4
def lb_X11_answers_17 (X : JX) (v1 : Int32) (v2 : Int32) (v3 : Int32) (v4 : Int32) (v5 : Int32) (rec17 : Int32 → Int32 → Option (Int32 × JX)) (v6 : Int32) (v7 : Int32) : Option (Int32 × JX) := (if (X (0) 2) ≤ v7 then some (v6, X) else (if v5 = 0 then some (v6, X) else (f_X11_isAnswer X v7 v1 v2 v3 v4).bind fun t2 => (if t2 = 0 then b_X11_answers_52 rec17 X v1 v2 v3 v4 v5 v7 (0) v6 else b_X11_answers_52 rec17 X v1 v2 v3 v4 v5 v7 (1) v6)))
def l_X11_answers_17 (X : JX) (v1 : Int32) (v2 : Int32) (v3 : Int32) (v4 : Int32) (v5 : Int32) : Int32 → Int32 → Option (Int32 × JX) := loop2 (lb_X11_answers_17 X v1 v2 v3 v4 v5) 1000
def f_X11_answers (X : JX) (v1 : Int32) (v2 : Int32) (v3 : Int32) (v4 : Int32) : Option (Int32 × JX) := (f_X11_canAsk X v1 v2 v3 v4).bind fun t1 => l_X11_answers_17 t1.2 v1 v2 v3 v4 t1.1 (0) (0)
def b_X11_answersAnew_227 (rec17 : JX → Int32 → Int32 → Option (Int32 × JX)) (X : JX) (v1 : Int32) (v2 : Int32) (v3 : Int32) (v4 : Int32) (v5 : Int32) (v6 : Int32) (v7 : Int32) : Option (Int32 × JX) := nV (v7 + 1) fun t7 => rec17 X v6 t7
def b_X11_answersAnew_224 (rec17 : JX → Int32 → Int32 → Option (Int32 × JX)) (X : JX) (v1 : Int32) (v2 : Int32) (v3 : Int32) (v4 : Int32) (v5 : Int32) (v7 : Int32) (s0 : Int32) (s1 : Int32) : Option (Int32 × JX) := nV (s1 + s0) fun t8 => b_X11_answersAnew_227 rec17 X v1 v2 v3 v4 v5 t8 v7
def b_X11_answersAnew_199 (rec17 : JX → Int32 → Int32 → Option (Int32 × JX)) (rec146 : Int32 → Int32 → Int32 → Option (Int32 × JX)) (X : JX) (v1 : Int32) (v2 : Int32) (v3 : Int32) (v4 : Int32) (v5 : Int32) (v6 : Int32) (v7 : Int32) (v10 : Int32) (v12 : Int32) (s0 : Int32) : Option (Int32 × JX) := nV (v12 + 1) fun t9 => rec146 v10 s0 t9
def b_X11_answersAnew_176 (rec17 : JX → Int32 → Int32 → Option (Int32 × JX)) (rec146 : Int32 → Int32 → Int32 → Option (Int32 × JX)) (X : JX) (v1 : Int32) (v2 : Int32) (v3 : Int32) (v4 : Int32) (v5 : Int32) (v6 : Int32) (v7 : Int32) (v11 : Int32) (v12 : Int32) (s0 : Int32) : Option (Int32 × JX) := (if ¬ v11 = 0 then b_X11_answersAnew_199 rec17 rec146 X v1 v2 v3 v4 v5 v6 v7 s0 v12 (1) else (if okI v12 20 = true then (if ¬ (X (33) v12.toNatClampNeg) = v3 then b_X11_answersAnew_199 rec17 rec146 X v1 v2 v3 v4 v5 v6 v7 s0 v12 (0) else b_X11_answersAnew_199 rec17 rec146 X v1 v2 v3 v4 v5 v6 v7 s0 v12 (1)) else none))
def lb_X11_answersAnew_146 (rec17 : JX → Int32 → Int32 → Option (Int32 × JX)) (X : JX) (v1 : Int32) (v2 : Int32) (v3 : Int32) (v4 : Int32) (v5 : Int32) (v6 : Int32) (v7 : Int32) (rec146 : Int32 → Int32 → Int32 → Option (Int32 × JX)) (v10 : Int32) (v11 : Int32) (v12 : Int32) : Option (Int32 × JX) := (if (X (0) 44) ≤ v12 then (if v10 = 0 then b_X11_answersAnew_224 rec17 X v1 v2 v3 v4 v5 v7 (0) v6 else (if v11 = 0 then b_X11_answersAnew_224 rec17 X v1 v2 v3 v4 v5 v7 (0) v6 else b_X11_answersAnew_224 rec17 X v1 v2 v3 v4 v5 v7 (1) v6)) else (if ¬ v10 = 0 then b_X11_answersAnew_176 rec17 rec146 X v1 v2 v3 v4 v5 v6 v7 v11 v12 (1) else (if okI v12 20 = true then (if ¬ (X (33) v12.toNatClampNeg) = v2 then b_X11_answersAnew_176 rec17 rec146 X v1 v2 v3 v4 v5 v6 v7 v11 v12 (0) else b_X11_answersAnew_176 rec17 rec146 X v1 v2 v3 v4 v5 v6 v7 v11 v12 (1)) else none)))
def l_X11_answersAnew_146 (rec17 : JX → Int32 → Int32 → Option (Int32 × JX)) (X : JX) (v1 : Int32) (v2 : Int32) (v3 : Int32) (v4 : Int32) (v5 : Int32) (v6 : Int32) (v7 : Int32) : Int32 → Int32 → Int32 → Option (Int32 × JX) := loop3 (lb_X11_answersAnew_146 rec17 X v1 v2 v3 v4 v5 v6 v7) 1000
def b_X11_answersAnew_141 (rec17 : JX → Int32 → Int32 → Option (Int32 × JX)) (X : JX) (v1 : Int32) (v2 : Int32) (v3 : Int32) (v4 : Int32) (v5 : Int32) (v6 : Int32) (v7 : Int32) (v10 : Int32) (s0 : Int32) : Option (Int32 × JX) := l_X11_answersAnew_146 rec17 X v1 v2 v3 v4 v5 v6 v7 v10 s0 (0)
def b_X11_answersAnew_105 (rec17 : JX → Int32 → Int32 → Option (Int32 × JX)) (X : JX) (v1 : Int32) (v2 : Int32) (v3 : Int32) (v4 : Int32) (v5 : Int32) (v6 : Int32) (v7 : Int32) (s0 : Int32) : Option (Int32 × JX) := (if s0 = 0 then b_X11_answersAnew_227 rec17 X v1 v2 v3 v4 v5 v6 v7 else (f_X11_mayReadAt X v1 v7).bind fun t5 => (if t5 = 0 then b_X11_answersAnew_227 rec17 X v1 v2 v3 v4 v5 v6 v7 else (f_X11_takesWords X v7).bind fun X6 => (if ¬ v3 = -1 then b_X11_answersAnew_141 rec17 X6 v1 v2 v3 v4 v5 v6 v7 (0) (0) else b_X11_answersAnew_141 rec17 X6 v1 v2 v3 v4 v5 v6 v7 (0) (1))))
def lb_X11_answersAnew_17 (v1 : Int32) (v2 : Int32) (v3 : Int32) (v4 : Int32) (v5 : Int32) (rec17 : JX → Int32 → Int32 → Option (Int32 × JX)) (X : JX) (v6 : Int32) (v7 : Int32) : Option (Int32 × JX) := (if (X (0) 2) ≤ v7 then some (v6, X) else (if v5 = 0 then some (v6, X) else (f_X11_over X v7).bind fun t2 => (if t2 = -1 then b_X11_answersAnew_105 rec17 X v1 v2 v3 v4 v5 v6 v7 (0) else (if okI v7 60 = true then (if ¬ (X (2) v7.toNatClampNeg) = 0 then b_X11_answersAnew_105 rec17 X v1 v2 v3 v4 v5 v6 v7 (0) else (if v4 = -1 then b_X11_answersAnew_105 rec17 X v1 v2 v3 v4 v5 v6 v7 (1) else (f_X11_isBelow X v7 v4).bind fun t3 => (if t3 = 0 then b_X11_answersAnew_105 rec17 X v1 v2 v3 v4 v5 v6 v7 (0) else (if okI t2 4 = true then (if v4 = (X (10) t2.toNatClampNeg) then b_X11_answersAnew_105 rec17 X v1 v2 v3 v4 v5 v6 v7 (1) else (if okI t2 4 = true then (f_X11_isBelow X v4 (X (10) t2.toNatClampNeg)).bind fun t4 => (if t4 = 0 then b_X11_answersAnew_105 rec17 X v1 v2 v3 v4 v5 v6 v7 (0) else b_X11_answersAnew_105 rec17 X v1 v2 v3 v4 v5 v6 v7 (1)) else none)) else none)))) else none))))
def l_X11_answersAnew_17 (v1 : Int32) (v2 : Int32) (v3 : Int32) (v4 : Int32) (v5 : Int32) : JX → Int32 → Int32 → Option (Int32 × JX) := loop3 (lb_X11_answersAnew_17 v1 v2 v3 v4 v5) 1000
def f_X11_answersAnew (X : JX) (v1 : Int32) (v2 : Int32) (v3 : Int32) (v4 : Int32) : Option (Int32 × JX) := (f_X11_canAsk X v1 v2 v3 v4).bind fun t1 => l_X11_answersAnew_17 v1 v2 v3 v4 t1.1 t1.2 (0) (0)
def f_X11_battery (X : JX) (v1 : Int32) : Option (Int32 × JX) := nX (pX X (0) (upd (X (0)) 0 (0))) fun X1 => nV (X1 (0) 34) fun t2 => (if okB v1 = true then nX (pX X1 (0) (upd (X1 (0)) 34 v1)) fun X3 => (if okB t2 = true then some (t2, X3) else none) else none)
def lb_X11_beginsCrawl_31 (v1 : Int32) (rec31 : JX → Int32 → Option JX) (X : JX) (v2 : Int32) : Option JX := (if 60 ≤ v2 then some X else (if okI (((60) * v1) + v2) 240 = true then nX (pX X (18) (upd (X (18)) (((60) * v1) + v2).toNatClampNeg (vp_nar .boolean (0)))) fun X4 => nV (v2 + 1) fun t5 => rec31 X4 t5 else none))
def l_X11_beginsCrawl_31 (v1 : Int32) : JX → Int32 → Option JX := loop2 (lb_X11_beginsCrawl_31 v1) 1000
def f_X11_beginsCrawl (X : JX) (v1 : Int32) : Option JX := (if okI v1 4 = true then nX (pX X (15) (upd (X (15)) v1.toNatClampNeg (vp_nar .boolean (1)))) fun X1 => (if okI v1 4 = true then nX (pX X1 (16) (upd (X1 (16)) v1.toNatClampNeg (1))) fun X2 => (if okI v1 4 = true then (if okI ((60) * v1) 240 = true then nX (pX X2 (17) (upd (X2 (17)) ((60) * v1).toNatClampNeg (X2 (10) v1.toNatClampNeg))) fun X3 => l_X11_beginsCrawl_31 v1 X3 (0) else none) else none) else none) else none)
def lb_X11_takesPlace_12 (rec12 : JX → Int32 → Option JX) (X : JX) (v2 : Int32) : Option JX := (if (X (0) 37) ≤ v2 then some X else (if okI (v2 + (1)) 600 = true then (if okI v2 600 = true then nX (pX X (28) (upd (X (28)) v2.toNatClampNeg (X (28) (v2 + (1)).toNatClampNeg))) fun X2 => (if okI (v2 + (1)) 600 = true then (if okI v2 600 = true then nX (pX X2 (29) (upd (X2 (29)) v2.toNatClampNeg (X2 (29) (v2 + (1)).toNatClampNeg))) fun X3 => (if okI (v2 + (1)) 600 = true then (if okI v2 600 = true then nX (pX X3 (30) (upd (X3 (30)) v2.toNatClampNeg (vp_nar .boolean (X3 (30) (v2 + (1)).toNatClampNeg)))) fun X4 => nV (v2 + 1) fun t5 => rec12 X4 t5 else none) else none) else none) else none) else none) else none))
def l_X11_takesPlace_12 : JX → Int32 → Option JX := loop2 (lb_X11_takesPlace_12 ) 1000
def f_X11_takesPlace (X : JX) (v1 : Int32) : Option JX := nX (pX X (0) (upd (X (0)) 37 ((X (0) 37) - (1)))) fun X1 => l_X11_takesPlace_12 X1 v1
def b_X11_cleans_35 (rec7 : JX → Int32 → Option JX) (X : JX) (v1 : Int32) (v2 : Int32) : Option JX := nV (v2 + (-1)) fun t3 => rec7 X t3
def lb_X11_cleans_7 (v1 : Int32) (rec7 : JX → Int32 → Option JX) (X : JX) (v2 : Int32) : Option JX := (if v2 < 0 then some X else (if okI v2 600 = true then (if ¬ (X (28) v2.toNatClampNeg) = v1 then b_X11_cleans_35 rec7 X v1 v2 else (if okI v2 600 = true then (if (X (30) v2.toNatClampNeg) = 0 then b_X11_cleans_35 rec7 X v1 v2 else (f_X11_takesPlace X v2).bind fun X2 => b_X11_cleans_35 rec7 X2 v1 v2) else none)) else none))
def l_X11_cleans_7 (v1 : Int32) : JX → Int32 → Option JX := loop2 (lb_X11_cleans_7 v1) 1000
def f_X11_cleans (X : JX) (v1 : Int32) : Option JX := nV ((X (0) 37) - (1)) fun t1 => l_X11_cleans_7 v1 X t1
def f_X11_isNode (X : JX) (v1 : Int32) : Option Int32 := (f_X11_in X v1 (0) ((X (0) 2) - (1))).bind fun t1 => (if t1 = 0 then some (0) else (if okI v1 60 = true then (if (X (1) v1.toNatClampNeg) = 0 then some (0) else some (1)) else none))
def f_X11_isFileAt (X : JX) (v1 : Int32) : Option Int32 := (f_X11_isNode X v1).bind fun t1 => (if t1 = 0 then some (0) else (if okI v1 60 = true then (if ¬ (X (2) v1.toNatClampNeg) = 0 then some (0) else some (1)) else none))
def b_X11_isCloser_54 (X : JX) (v0 : Int32) (v2 : Int32) (v4 : Int32) (v5 : Int32) (v6 : Int32) (s0 : Int32) : Option Int32 := (if v4 = v5 then (if v6 = s0 then (if v2 ≤ v0 then some (0) else some (1)) else (if s0 ≤ v6 then some (0) else some (1))) else (if v5 ≤ v4 then some (0) else some (1)))
def b_X11_isCloser_42 (X : JX) (v0 : Int32) (v2 : Int32) (v3 : Int32) (v4 : Int32) (v5 : Int32) (s0 : Int32) : Option Int32 := (if v3 ≤ v2 then b_X11_isCloser_54 X v0 v2 v4 v5 s0 v3 else b_X11_isCloser_54 X v0 v2 v4 v5 s0 v2)
def b_X11_isCloser_30 (X : JX) (v0 : Int32) (v1 : Int32) (v2 : Int32) (v3 : Int32) (v4 : Int32) (s0 : Int32) : Option Int32 := (if v1 ≤ v0 then b_X11_isCloser_42 X v0 v2 v3 v4 s0 v1 else b_X11_isCloser_42 X v0 v2 v3 v4 s0 v0)
def b_X11_isCloser_14 (X : JX) (v0 : Int32) (v1 : Int32) (v2 : Int32) (v3 : Int32) (s0 : Int32) : Option Int32 := (if v3 ≤ v2 then b_X11_isCloser_30 X v0 v1 v2 v3 s0 (v2 - v3) else b_X11_isCloser_30 X v0 v1 v2 v3 s0 (v3 - v2))
def f_X11_isCloser (X : JX) (v0 : Int32) (v1 : Int32) (v2 : Int32) (v3 : Int32) : Option Int32 := (if v1 ≤ v0 then b_X11_isCloser_14 X v0 v1 v2 v3 (v0 - v1) else b_X11_isCloser_14 X v0 v1 v2 v3 (v1 - v0))
def b_X11_closest_26 (X : JX) : Option (Int32 × JX) := (f_X11_fails X (1)).bind fun t6 => some (t6.1, t6.2)
def b_X11_closest_203 (rec98 : Int32 → Int32 → Option (Int32 × JX)) (rec108 : Int32 → Int32 → Option (Int32 × JX)) (X : JX) (v2 : Int32) (v3 : Int32) (v4 : Int32) (v5 : Int32) (v6 : Int32) (v7 : Int32) (v8 : Int32) : Option (Int32 × JX) := nV (v8 + 1) fun t11 => rec108 v5 t11
def b_X11_closest_193 (rec98 : Int32 → Int32 → Option (Int32 × JX)) (rec108 : Int32 → Int32 → Option (Int32 × JX)) (X : JX) (v2 : Int32) (v3 : Int32) (v4 : Int32) (v6 : Int32) (v7 : Int32) (v8 : Int32) : Option (Int32 × JX) := nV (((100) * v7) + v8) fun t12 => b_X11_closest_203 rec98 rec108 X v2 v3 v4 t12 v6 v7 v8
def b_X11_closest_160 (rec98 : Int32 → Int32 → Option (Int32 × JX)) (rec108 : Int32 → Int32 → Option (Int32 × JX)) (X : JX) (v2 : Int32) (v3 : Int32) (v4 : Int32) (v5 : Int32) (v6 : Int32) (v7 : Int32) (v8 : Int32) (s0 : Int32) : Option (Int32 × JX) := (if s0 = 0 then b_X11_closest_203 rec98 rec108 X v2 v3 v4 v5 v6 v7 v8 else (if v5 = -1 then b_X11_closest_193 rec98 rec108 X v2 v3 v4 v6 v7 v8 else (f_X11_isCloser X v7 v8 (v5 / (100)) (v5 - v5 / (100) * (100))).bind fun t10 => (if t10 = 0 then b_X11_closest_203 rec98 rec108 X v2 v3 v4 v5 v6 v7 v8 else b_X11_closest_193 rec98 rec108 X v2 v3 v4 v6 v7 v8)))
def lb_X11_closest_108 (rec98 : Int32 → Int32 → Option (Int32 × JX)) (X : JX) (v2 : Int32) (v3 : Int32) (v4 : Int32) (v6 : Int32) (v7 : Int32) (rec108 : Int32 → Int32 → Option (Int32 × JX)) (v5 : Int32) (v8 : Int32) : Option (Int32 × JX) := (if v6 ≤ v8 then nV (v7 + 1) fun t9 => rec98 v5 t9 else (if v7 = v8 then b_X11_closest_160 rec98 rec108 X v2 v3 v4 v5 v6 v7 v8 (0) else (if okI (((20) * v2) + v7) 1200 = true then (if ¬ (X (24) (((20) * v2) + v7).toNatClampNeg) = v3 then b_X11_closest_160 rec98 rec108 X v2 v3 v4 v5 v6 v7 v8 (0) else (if okI (((20) * v2) + v8) 1200 = true then (if ¬ (X (24) (((20) * v2) + v8).toNatClampNeg) = v4 then b_X11_closest_160 rec98 rec108 X v2 v3 v4 v5 v6 v7 v8 (0) else b_X11_closest_160 rec98 rec108 X v2 v3 v4 v5 v6 v7 v8 (1)) else none)) else none)))
def l_X11_closest_108 (rec98 : Int32 → Int32 → Option (Int32 × JX)) (X : JX) (v2 : Int32) (v3 : Int32) (v4 : Int32) (v6 : Int32) (v7 : Int32) : Int32 → Int32 → Option (Int32 × JX) := loop2 (lb_X11_closest_108 rec98 X v2 v3 v4 v6 v7) 1000
def lb_X11_closest_98 (X : JX) (v2 : Int32) (v3 : Int32) (v4 : Int32) (v6 : Int32) (rec98 : Int32 → Int32 → Option (Int32 × JX)) (v5 : Int32) (v7 : Int32) : Option (Int32 × JX) := (if v6 ≤ v7 then some (v5, X) else l_X11_closest_108 rec98 X v2 v3 v4 v6 v7 v5 (0))
def l_X11_closest_98 (X : JX) (v2 : Int32) (v3 : Int32) (v4 : Int32) (v6 : Int32) : Int32 → Int32 → Option (Int32 × JX) := loop2 (lb_X11_closest_98 X v2 v3 v4 v6) 1000
def b_X11_closest_93 (X : JX) (v2 : Int32) (v3 : Int32) (v4 : Int32) (v5 : Int32) (s0 : Int32) : Option (Int32 × JX) := l_X11_closest_98 X v2 v3 v4 s0 v5 (0)
def b_X11_closest_59 (X : JX) (v2 : Int32) (v3 : Int32) (v4 : Int32) (s0 : Int32) : Option (Int32 × JX) := nX (pX X (0) (upd (X (0)) 0 s0)) fun X7 => (if (X7 (0) 0) ≤ 0 then nV (-1) fun t8 => (if okI v2 60 = true then (if (X7 (19) v2.toNatClampNeg) = 0 then b_X11_closest_93 X7 v2 v3 v4 t8 (0) else (if okI v2 60 = true then b_X11_closest_93 X7 v2 v3 v4 t8 (X7 (23) v2.toNatClampNeg) else none)) else none) else some (0, X7))
def f_X11_closest (X : JX) (v1 : Int32) (v2 : Int32) (v3 : Int32) (v4 : Int32) : Option (Int32 × JX) := (f_X11_in X v1 (0) (3)).bind fun t1 => (if t1 = 0 then b_X11_closest_26 X else (f_X11_isFileAt X v2).bind fun t2 => (if t2 = 0 then b_X11_closest_26 X else (f_X11_mayReadAt X v1 v2).bind fun t3 => (if ¬ t3 = 0 then (f_X11_in X v3 (0) (99)).bind fun t4 => (if t4 = 0 then b_X11_closest_59 X v2 v3 v4 (2) else (f_X11_in X v4 (0) (99)).bind fun t5 => (if t5 = 0 then b_X11_closest_59 X v2 v3 v4 (2) else b_X11_closest_59 X v2 v3 v4 (0))) else b_X11_closest_26 X)))
def f_X11_comes (X : JX) (v1 : Int32) (v2 : Int32) (v3 : Int32) : Option JX := (if v1 = -1 then some X else (if okI v1 4 = true then (if (X (14) v1.toNatClampNeg) = 0 then (if okI v1 4 = true then (if ¬ (X (11) v1.toNatClampNeg) = 8 then (if okI v1 4 = true then (if okI (((8) * v1) + (X (11) v1.toNatClampNeg)) 32 = true then nX (pX X (12) (upd (X (12)) (((8) * v1) + (X (11) v1.toNatClampNeg)).toNatClampNeg v2)) fun X1 => (if okI v1 4 = true then (if okI (((8) * v1) + (X1 (11) v1.toNatClampNeg)) 32 = true then nX (pX X1 (13) (upd (X1 (13)) (((8) * v1) + (X1 (11) v1.toNatClampNeg)).toNatClampNeg v3)) fun X2 => (if okI v1 4 = true then (if okI v1 4 = true then nX (pX X2 (11) (upd (X2 (11)) v1.toNatClampNeg ((X2 (11) v1.toNatClampNeg) + (1)))) fun X3 => some X3 else none) else none) else none) else none) else none) else none) else (if okI v1 4 = true then nX (pX X (11) (upd (X (11)) v1.toNatClampNeg (0))) fun X4 => (if okI v1 4 = true then nX (pX X4 (14) (upd (X4 (14)) v1.toNatClampNeg (vp_nar .boolean (1)))) fun X5 => some X5 else none) else none)) else none) else some X) else none))
def b_X11_cost_78 (X : JX) (v2 : Int32) : Option Int32 := (if okI v2 60 = true then some ((1) + (X (6) v2.toNatClampNeg)) else none)
def b_X11_cost_49 (X : JX) (v2 : Int32) (s0 : Int32) : Option Int32 := (if s0 = 0 then some (1) else (if okI v2 60 = true then (if (X (19) v2.toNatClampNeg) = 0 then b_X11_cost_78 X v2 else (if okI v2 60 = true then (if okI v2 60 = true then (if (X (22) v2.toNatClampNeg) = (X (5) v2.toNatClampNeg) then some (1) else b_X11_cost_78 X v2) else none) else none)) else none))
def f_X11_cost (X : JX) (v1 : Int32) : Option Int32 := (if okI v1 60 = true then nV (X (25) v1.toNatClampNeg) fun t1 => (if okI v1 60 = true then (if ¬ (X (26) v1.toNatClampNeg) = 1 then b_X11_cost_49 X t1 (0) else (f_X11_over X t1).bind fun t2 => (if t2 = -1 then b_X11_cost_49 X t1 (0) else (if okI t1 60 = true then (if ¬ (X (2) t1.toNatClampNeg) = 0 then b_X11_cost_49 X t1 (0) else (if okI t1 60 = true then (if ¬ (X (8) t1.toNatClampNeg) = 0 then b_X11_cost_49 X t1 (0) else b_X11_cost_49 X t1 (1)) else none)) else none))) else none) else none)
def b_X11_count_45 (rec5 : Int32 → Int32 → Option Int32) (X : JX) (v1 : Int32) (v2 : Int32) (v4 : Int32) (s0 : Int32) (s1 : Int32) : Option Int32 := nV (s1 + s0) fun t1 => nV (v4 + 1) fun t2 => rec5 t1 t2
def lb_X11_count_5 (X : JX) (v1 : Int32) (v2 : Int32) (rec5 : Int32 → Int32 → Option Int32) (v3 : Int32) (v4 : Int32) : Option Int32 := (if (X (0) 37) ≤ v4 then some v3 else (if okI v4 600 = true then (if ¬ (X (28) v4.toNatClampNeg) = v1 then b_X11_count_45 rec5 X v1 v2 v4 (0) v3 else (if okI v4 600 = true then (if ¬ (X (30) v4.toNatClampNeg) = 0 then b_X11_count_45 rec5 X v1 v2 v4 (1) v3 else (if ¬ v2 = 0 then b_X11_count_45 rec5 X v1 v2 v4 (0) v3 else b_X11_count_45 rec5 X v1 v2 v4 (1) v3)) else none)) else none))
def l_X11_count_5 (X : JX) (v1 : Int32) (v2 : Int32) : Int32 → Int32 → Option Int32 := loop2 (lb_X11_count_5 X v1 v2) 1000
def f_X11_count (X : JX) (v1 : Int32) (v2 : Int32) : Option Int32 := l_X11_count_5 X v1 v2 (0) (0)
def b_X11_crawl_64 (rec39 : Int32 → Int32 → Option (Int32 × JX)) (X : JX) (v4 : Int32) (s0 : Int32) (s1 : Int32) : Option (Int32 × JX) := nV (s1 + s0) fun t4 => nV (v4 + 1) fun t5 => rec39 t4 t5
def lb_X11_crawl_39 (X : JX) (rec39 : Int32 → Int32 → Option (Int32 × JX)) (v3 : Int32) (v4 : Int32) : Option (Int32 × JX) := (if (X (0) 12) ≤ v4 then some (v3, X) else (if okI v4 4 = true then (if (X (15) v4.toNatClampNeg) = 0 then b_X11_crawl_64 rec39 X v4 (0) v3 else b_X11_crawl_64 rec39 X v4 (1) v3) else none))
def l_X11_crawl_39 (X : JX) : Int32 → Int32 → Option (Int32 × JX) := loop2 (lb_X11_crawl_39 X) 1000
def b_X11_crawl_17 (X : JX) (v2 : Int32) (s0 : Int32) : Option (Int32 × JX) := nX (pX X (0) (upd (X (0)) 0 s0)) fun X2 => (if (X2 (0) 0) ≤ 0 then (f_X11_beginsCrawl X2 v2).bind fun X3 => l_X11_crawl_39 X3 (0) (0) else some (0, X2))
def f_X11_crawl (X : JX) (v1 : Int32) : Option (Int32 × JX) := (f_X11_rootAt X v1).bind fun t1 => (if ¬ t1 = -1 then b_X11_crawl_17 X t1 (0) else b_X11_crawl_17 X t1 (1))
def b_X11_dead_32 (rec9 : Int32 → Int32 → Option (Int32 × JX)) (X : JX) (v2 : Int32) (s0 : Int32) (s1 : Int32) : Option (Int32 × JX) := nV (s1 + s0) fun t2 => nV (v2 + 1) fun t3 => rec9 t2 t3
def lb_X11_dead_9 (X : JX) (rec9 : Int32 → Int32 → Option (Int32 × JX)) (v1 : Int32) (v2 : Int32) : Option (Int32 × JX) := (if (X (0) 37) ≤ v2 then some (v1, X) else (if okI v2 600 = true then (if (X (30) v2.toNatClampNeg) = 0 then b_X11_dead_32 rec9 X v2 (0) v1 else b_X11_dead_32 rec9 X v2 (1) v1) else none))
def l_X11_dead_9 (X : JX) : Int32 → Int32 → Option (Int32 × JX) := loop2 (lb_X11_dead_9 X) 1000
def f_X11_dead (X : JX) : Option (Int32 × JX) := nX (pX X (0) (upd (X (0)) 0 (0))) fun X1 => l_X11_dead_9 X1 (0) (0)
def b_X11_firstNoticed_36 (rec9 : Int32 → Int32 → Option Int32) (X : JX) (v2 : Int32) (s0 : Int32) : Option Int32 := nV (v2 + (-1)) fun t3 => rec9 s0 t3
def lb_X11_firstNoticed_9 (X : JX) (rec9 : Int32 → Int32 → Option Int32) (v1 : Int32) (v2 : Int32) : Option Int32 := (if v2 < 0 then some v1 else (if okI v2 4 = true then (if ¬ (X (14) v2.toNatClampNeg) = 0 then b_X11_firstNoticed_36 rec9 X v2 v2 else (if okI v2 4 = true then (if (X (11) v2.toNatClampNeg) ≤ 0 then b_X11_firstNoticed_36 rec9 X v2 v1 else b_X11_firstNoticed_36 rec9 X v2 v2) else none)) else none))
def l_X11_firstNoticed_9 (X : JX) : Int32 → Int32 → Option Int32 := loop2 (lb_X11_firstNoticed_9 X) 1000
def f_X11_firstNoticed (X : JX) : Option Int32 := nV (-1) fun t1 => nV ((X (0) 12) - (1)) fun t2 => l_X11_firstNoticed_9 X t1 t2
def b_X11_firstAct_27 (rec9 : Int32 → Int32 → Option Int32) (X : JX) (v2 : Int32) (s0 : Int32) : Option Int32 := nV (v2 + (-1)) fun t3 => rec9 s0 t3
def lb_X11_firstAct_9 (X : JX) (rec9 : Int32 → Int32 → Option Int32) (v1 : Int32) (v2 : Int32) : Option Int32 := (if v2 < 0 then some v1 else (if okI v2 60 = true then (if (X (27) v2.toNatClampNeg) = 0 then b_X11_firstAct_27 rec9 X v2 v2 else b_X11_firstAct_27 rec9 X v2 v1) else none))
def l_X11_firstAct_9 (X : JX) : Int32 → Int32 → Option Int32 := loop2 (lb_X11_firstAct_9 X) 1000
def f_X11_firstAct (X : JX) : Option Int32 := nV (-1) fun t1 => nV ((X (0) 30) - (1)) fun t2 => l_X11_firstAct_9 X t1 t2
def b_X11_firstCrawl_27 (rec9 : Int32 → Int32 → Option Int32) (X : JX) (v2 : Int32) (s0 : Int32) : Option Int32 := nV (v2 + (-1)) fun t3 => rec9 s0 t3
def lb_X11_firstCrawl_9 (X : JX) (rec9 : Int32 → Int32 → Option Int32) (v1 : Int32) (v2 : Int32) : Option Int32 := (if v2 < 0 then some v1 else (if okI v2 4 = true then (if (X (15) v2.toNatClampNeg) = 0 then b_X11_firstCrawl_27 rec9 X v2 v1 else b_X11_firstCrawl_27 rec9 X v2 v2) else none))
def l_X11_firstCrawl_9 (X : JX) : Int32 → Int32 → Option Int32 := loop2 (lb_X11_firstCrawl_9 X) 1000
def f_X11_firstCrawl (X : JX) : Option Int32 := nV (-1) fun t1 => nV ((X (0) 12) - (1)) fun t2 => l_X11_firstCrawl_9 X t1 t2
def lb_X11_notes_65 (v1 : Int32) (rec65 : JX → Int32 → Option JX) (X : JX) (v2 : Int32) : Option JX := (if okI v1 4 = true then (if (X (11) v1.toNatClampNeg) ≤ v2 then some X else (if okI ((((8) * v1) + v2) + (1)) 32 = true then (if okI (((8) * v1) + v2) 32 = true then nX (pX X (12) (upd (X (12)) (((8) * v1) + v2).toNatClampNeg (X (12) ((((8) * v1) + v2) + (1)).toNatClampNeg))) fun X5 => (if okI ((((8) * v1) + v2) + (1)) 32 = true then (if okI (((8) * v1) + v2) 32 = true then nX (pX X5 (13) (upd (X5 (13)) (((8) * v1) + v2).toNatClampNeg (X5 (13) ((((8) * v1) + v2) + (1)).toNatClampNeg))) fun X6 => nV (v2 + 1) fun t7 => rec65 X6 t7 else none) else none) else none) else none)) else none)
def l_X11_notes_65 (v1 : Int32) : JX → Int32 → Option JX := loop2 (lb_X11_notes_65 v1) 1000
def b_X11_notes_50 (X : JX) (v1 : Int32) (s0 : Int32) (s1 : Int32) : Option JX := (f_X11_adds X s1 s0).bind fun X3 => (if okI v1 4 = true then (if okI v1 4 = true then nX (pX X3 (11) (upd (X3 (11)) v1.toNatClampNeg ((X3 (11) v1.toNatClampNeg) - (1)))) fun X4 => l_X11_notes_65 v1 X4 (0) else none) else none)
def f_X11_notes (X : JX) (v1 : Int32) : Option JX := (if okI v1 4 = true then (if (X (14) v1.toNatClampNeg) = 0 then (if okI ((8) * v1) 32 = true then (if okI ((8) * v1) 32 = true then (if ¬ (X (12) ((8) * v1).toNatClampNeg) = 2 then b_X11_notes_50 X v1 (1) (X (13) ((8) * v1).toNatClampNeg) else b_X11_notes_50 X v1 (2) (X (13) ((8) * v1).toNatClampNeg)) else none) else none) else (if okI v1 4 = true then nX (pX X (14) (upd (X (14)) v1.toNatClampNeg (vp_nar .boolean (0)))) fun X1 => (f_X11_beginsCrawl X1 v1).bind fun X2 => some X2 else none)) else none)
def b_X11_isKnown_63 (X : JX) : Option Int32 := some (1)
def f_X11_isKnown (X : JX) (v1 : Int32) : Option Int32 := (if okI v1 60 = true then (if (X (19) v1.toNatClampNeg) = 0 then some (0) else (if okI v1 60 = true then (if okI v1 60 = true then (if ¬ (X (20) v1.toNatClampNeg) = (X (3) v1.toNatClampNeg) then some (0) else (if okI v1 60 = true then (if okI v1 60 = true then (if ¬ (X (21) v1.toNatClampNeg) = (X (4) v1.toNatClampNeg) then some (0) else (if okI v1 60 = true then (if ¬ (X (2) v1.toNatClampNeg) = 0 then b_X11_isKnown_63 X else (if okI v1 60 = true then (if okI v1 60 = true then (if ¬ (X (22) v1.toNatClampNeg) = (X (5) v1.toNatClampNeg) then some (0) else b_X11_isKnown_63 X) else none) else none)) else none)) else none) else none)) else none) else none)) else none)
def b_X11_isWaiting_41 (rec5 : Int32 → Int32 → Option Int32) (X : JX) (v1 : Int32) (v2 : Int32) (v4 : Int32) (s0 : Int32) : Option Int32 := nV (v4 + 1) fun t1 => rec5 s0 t1
def lb_X11_isWaiting_5 (X : JX) (v1 : Int32) (v2 : Int32) (rec5 : Int32 → Int32 → Option Int32) (v3 : Int32) (v4 : Int32) : Option Int32 := (if okI v1 4 = true then (if (X (16) v1.toNatClampNeg) ≤ v4 then (if okB v3 = true then some v3 else none) else (if ¬ v3 = 0 then b_X11_isWaiting_41 rec5 X v1 v2 v4 (1) else (if okI (((60) * v1) + v4) 240 = true then (if ¬ (X (17) (((60) * v1) + v4).toNatClampNeg) = v2 then b_X11_isWaiting_41 rec5 X v1 v2 v4 (0) else b_X11_isWaiting_41 rec5 X v1 v2 v4 (1)) else none))) else none)
def l_X11_isWaiting_5 (X : JX) (v1 : Int32) (v2 : Int32) : Int32 → Int32 → Option Int32 := loop2 (lb_X11_isWaiting_5 X v1 v2) 1000
def f_X11_isWaiting (X : JX) (v1 : Int32) (v2 : Int32) : Option Int32 := l_X11_isWaiting_5 X v1 v2 (0) (0)
def b_X11_goesOn_256 (rec219 : JX → Int32 → Option JX) (X : JX) (v1 : Int32) (v3 : Int32) : Option JX := nV (v3 + 1) fun t11 => rec219 X t11
def lb_X11_goesOn_219 (v1 : Int32) (rec219 : JX → Int32 → Option JX) (X : JX) (v3 : Int32) : Option JX := (if (X (0) 2) ≤ v3 then some X else (if okI v3 60 = true then (if (X (19) v3.toNatClampNeg) = 0 then b_X11_goesOn_256 rec219 X v1 v3 else (if okI (((60) * v1) + v3) 240 = true then (if ¬ (X (18) (((60) * v1) + v3).toNatClampNeg) = 0 then b_X11_goesOn_256 rec219 X v1 v3 else (f_X11_adds X v3 (1)).bind fun X7 => b_X11_goesOn_256 rec219 X7 v1 v3) else none)) else none))
def l_X11_goesOn_219 (v1 : Int32) : JX → Int32 → Option JX := loop2 (lb_X11_goesOn_219 v1) 1000
def b_X11_goesOn_201 (X : JX) (v1 : Int32) : Option JX := (if okI v1 4 = true then (if ¬ (X (16) v1.toNatClampNeg) = 0 then some X else (if okI v1 4 = true then nX (pX X (15) (upd (X (15)) v1.toNatClampNeg (vp_nar .boolean (0)))) fun X6 => l_X11_goesOn_219 v1 X6 (0) else none)) else none)
def b_X11_goesOn_195 (rec97 : JX → Int32 → Option JX) (X : JX) (v1 : Int32) (v2 : Int32) (v3 : Int32) : Option JX := nV (v3 + 1) fun t12 => rec97 X t12
def b_X11_goesOn_150 (rec97 : JX → Int32 → Option JX) (X : JX) (v1 : Int32) (v2 : Int32) (v3 : Int32) : Option JX := (if okI v3 60 = true then (if (X (2) v3.toNatClampNeg) = 0 then b_X11_goesOn_195 rec97 X v1 v2 v3 else (f_X11_isWaiting X v1 v3).bind fun t13 => (if ¬ t13 = 0 then b_X11_goesOn_195 rec97 X v1 v2 v3 else (if okI v1 4 = true then (if okI (((60) * v1) + (X (16) v1.toNatClampNeg)) 240 = true then nX (pX X (17) (upd (X (17)) (((60) * v1) + (X (16) v1.toNatClampNeg)).toNatClampNeg v3)) fun X14 => (if okI v1 4 = true then (if okI v1 4 = true then nX (pX X14 (16) (upd (X14 (16)) v1.toNatClampNeg ((X14 (16) v1.toNatClampNeg) + (1)))) fun X15 => b_X11_goesOn_195 rec97 X15 v1 v2 v3 else none) else none) else none) else none))) else none)
def lb_X11_goesOn_97 (v1 : Int32) (v2 : Int32) (rec97 : JX → Int32 → Option JX) (X : JX) (v3 : Int32) : Option JX := (if (X (0) 2) ≤ v3 then b_X11_goesOn_201 X v1 else (if okI v3 60 = true then (if (X (1) v3.toNatClampNeg) = 0 then b_X11_goesOn_195 rec97 X v1 v2 v3 else (if okI v3 60 = true then (if ¬ (X (3) v3.toNatClampNeg) = v2 then b_X11_goesOn_195 rec97 X v1 v2 v3 else (if okI (((60) * v1) + v3) 240 = true then nX (pX X (18) (upd (X (18)) (((60) * v1) + v3).toNatClampNeg (vp_nar .boolean (1)))) fun X8 => (f_X11_isKnown X8 v3).bind fun t9 => (if ¬ t9 = 0 then b_X11_goesOn_150 rec97 X8 v1 v2 v3 else (f_X11_adds X8 v3 (1)).bind fun X10 => b_X11_goesOn_150 rec97 X10 v1 v2 v3) else none)) else none)) else none))
def l_X11_goesOn_97 (v1 : Int32) (v2 : Int32) : JX → Int32 → Option JX := loop2 (lb_X11_goesOn_97 v1 v2) 1000
def b_X11_goesOn_95 (X : JX) (v1 : Int32) (v2 : Int32) : Option JX := l_X11_goesOn_97 v1 v2 X (0)
def lb_X11_goesOn_22 (v1 : Int32) (v2 : Int32) (rec22 : JX → Int32 → Option JX) (X : JX) (v3 : Int32) : Option JX := (if okI v1 4 = true then (if (X (16) v1.toNatClampNeg) ≤ v3 then (if okI v2 60 = true then (if (X (1) v2.toNatClampNeg) = 0 then b_X11_goesOn_201 X v1 else (if okI v1 4 = true then (if v2 = (X (10) v1.toNatClampNeg) then b_X11_goesOn_95 X v1 v2 else (if okI v1 4 = true then (f_X11_isBelow X v2 (X (10) v1.toNatClampNeg)).bind fun t3 => (if t3 = 0 then b_X11_goesOn_201 X v1 else b_X11_goesOn_95 X v1 v2) else none)) else none)) else none) else (if okI ((((60) * v1) + v3) + (1)) 240 = true then (if okI (((60) * v1) + v3) 240 = true then nX (pX X (17) (upd (X (17)) (((60) * v1) + v3).toNatClampNeg (X (17) ((((60) * v1) + v3) + (1)).toNatClampNeg))) fun X4 => nV (v3 + 1) fun t5 => rec22 X4 t5 else none) else none)) else none)
def l_X11_goesOn_22 (v1 : Int32) (v2 : Int32) : JX → Int32 → Option JX := loop2 (lb_X11_goesOn_22 v1 v2) 1000
def f_X11_goesOn (X : JX) (v1 : Int32) : Option JX := (if okI ((60) * v1) 240 = true then nV (X (17) ((60) * v1).toNatClampNeg) fun t1 => (if okI v1 4 = true then (if okI v1 4 = true then nX (pX X (16) (upd (X (16)) v1.toNatClampNeg ((X (16) v1.toNatClampNeg) - (1)))) fun X2 => l_X11_goesOn_22 v1 t1 X2 (0) else none) else none) else none)
def b_X11_does_61 (X : JX) (v2 : Int32) (v3 : Int32) (v4 : Int32) (v5 : Int32) : Option (Int32 × JX) := (if v2 = -1 then (if v3 = -1 then (f_X11_goesOn X v4).bind fun X5 => some (v5, X5) else (f_X11_acts X v3).bind fun X6 => some (v5, X6)) else (f_X11_notes X v2).bind fun X7 => some (v5, X7))
def b_X11_does_35 (X : JX) (v1 : Int32) (v2 : Int32) (v3 : Int32) (v4 : Int32) (s0 : Int32) : Option (Int32 × JX) := (if v1 < s0 then some (0, X) else (if ¬ v2 = -1 then b_X11_does_61 X v2 v3 v4 s0 else (if ¬ v3 = -1 then b_X11_does_61 X v2 v3 v4 s0 else (if ¬ v4 = -1 then b_X11_does_61 X v2 v3 v4 s0 else some (0, X)))))
def f_X11_does (X : JX) (v1 : Int32) : Option (Int32 × JX) := (f_X11_firstNoticed X ).bind fun t1 => (f_X11_firstAct X ).bind fun t2 => (f_X11_firstCrawl X ).bind fun t3 => (if ¬ t1 = -1 then b_X11_does_35 X v1 t1 t2 t3 (1) else (if t2 = -1 then b_X11_does_35 X v1 t1 t2 t3 (1) else (f_X11_cost X t2).bind fun t4 => b_X11_does_35 X v1 t1 t2 t3 t4))
def lb_X11_drops_192 (rec12 : JX → Int32 → Option JX) (v2 : Int32) (rec192 : JX → Int32 → Option JX) (X : JX) (v3 : Int32) : Option JX := (if 60 ≤ v3 then nV (v2 + 1) fun t12 => rec12 X t12 else (if okI (((60) * (v2 + (1))) + v3) 240 = true then (if okI (((60) * v2) + v3) 240 = true then nX (pX X (18) (upd (X (18)) (((60) * v2) + v3).toNatClampNeg (vp_nar .boolean (X (18) (((60) * (v2 + (1))) + v3).toNatClampNeg)))) fun X13 => nV (v3 + 1) fun t14 => rec192 X13 t14 else none) else none))
def l_X11_drops_192 (rec12 : JX → Int32 → Option JX) (v2 : Int32) : JX → Int32 → Option JX := loop2 (lb_X11_drops_192 rec12 v2) 1000
def lb_X11_drops_154 (rec12 : JX → Int32 → Option JX) (v2 : Int32) (rec154 : JX → Int32 → Option JX) (X : JX) (v3 : Int32) : Option JX := (if 60 ≤ v3 then l_X11_drops_192 rec12 v2 X (0) else (if okI (((60) * (v2 + (1))) + v3) 240 = true then (if okI (((60) * v2) + v3) 240 = true then nX (pX X (17) (upd (X (17)) (((60) * v2) + v3).toNatClampNeg (X (17) (((60) * (v2 + (1))) + v3).toNatClampNeg))) fun X10 => nV (v3 + 1) fun t11 => rec154 X10 t11 else none) else none))
def l_X11_drops_154 (rec12 : JX → Int32 → Option JX) (v2 : Int32) : JX → Int32 → Option JX := loop2 (lb_X11_drops_154 rec12 v2) 1000
def lb_X11_drops_92 (rec12 : JX → Int32 → Option JX) (v2 : Int32) (rec92 : JX → Int32 → Option JX) (X : JX) (v3 : Int32) : Option JX := (if 8 ≤ v3 then l_X11_drops_154 rec12 v2 X (0) else (if okI (((8) * (v2 + (1))) + v3) 32 = true then (if okI (((8) * v2) + v3) 32 = true then nX (pX X (12) (upd (X (12)) (((8) * v2) + v3).toNatClampNeg (X (12) (((8) * (v2 + (1))) + v3).toNatClampNeg))) fun X7 => (if okI (((8) * (v2 + (1))) + v3) 32 = true then (if okI (((8) * v2) + v3) 32 = true then nX (pX X7 (13) (upd (X7 (13)) (((8) * v2) + v3).toNatClampNeg (X7 (13) (((8) * (v2 + (1))) + v3).toNatClampNeg))) fun X8 => nV (v3 + 1) fun t9 => rec92 X8 t9 else none) else none) else none) else none))
def l_X11_drops_92 (rec12 : JX → Int32 → Option JX) (v2 : Int32) : JX → Int32 → Option JX := loop2 (lb_X11_drops_92 rec12 v2) 1000
def lb_X11_drops_12 (rec12 : JX → Int32 → Option JX) (X : JX) (v2 : Int32) : Option JX := (if (X (0) 12) ≤ v2 then some X else (if okI (v2 + (1)) 4 = true then (if okI v2 4 = true then nX (pX X (10) (upd (X (10)) v2.toNatClampNeg (X (10) (v2 + (1)).toNatClampNeg))) fun X2 => (if okI (v2 + (1)) 4 = true then (if okI v2 4 = true then nX (pX X2 (11) (upd (X2 (11)) v2.toNatClampNeg (X2 (11) (v2 + (1)).toNatClampNeg))) fun X3 => (if okI (v2 + (1)) 4 = true then (if okI v2 4 = true then nX (pX X3 (14) (upd (X3 (14)) v2.toNatClampNeg (vp_nar .boolean (X3 (14) (v2 + (1)).toNatClampNeg)))) fun X4 => (if okI (v2 + (1)) 4 = true then (if okI v2 4 = true then nX (pX X4 (15) (upd (X4 (15)) v2.toNatClampNeg (vp_nar .boolean (X4 (15) (v2 + (1)).toNatClampNeg)))) fun X5 => (if okI (v2 + (1)) 4 = true then (if okI v2 4 = true then nX (pX X5 (16) (upd (X5 (16)) v2.toNatClampNeg (X5 (16) (v2 + (1)).toNatClampNeg))) fun X6 => l_X11_drops_92 rec12 v2 X6 (0) else none) else none) else none) else none) else none) else none) else none) else none) else none) else none))
def l_X11_drops_12 : JX → Int32 → Option JX := loop2 (lb_X11_drops_12 ) 1000
def f_X11_drops (X : JX) (v1 : Int32) : Option JX := nX (pX X (0) (upd (X (0)) 12 ((X (0) 12) - (1)))) fun X1 => l_X11_drops_12 X1 v1
def b_X11_edition_20 (X : JX) (v1 : Int32) (s0 : Int32) : Option (Int32 × JX) := nX (pX X (0) (upd (X (0)) 0 s0)) fun X2 => (if (X2 (0) 0) ≤ 0 then (if okI v1 60 = true then (if (X2 (19) v1.toNatClampNeg) = 0 then some (-1, X2) else (if okI v1 60 = true then some ((X2 (22) v1.toNatClampNeg), X2) else none)) else none) else some (0, X2))
def f_X11_edition (X : JX) (v1 : Int32) : Option (Int32 × JX) := (f_X11_in X v1 (0) ((X (0) 2) - (1))).bind fun t1 => (if t1 = 0 then b_X11_edition_20 X v1 (1) else b_X11_edition_20 X v1 (0))
def b_X11_empty_27 (X : JX) (v1 : Int32) (s0 : Int32) : Option (Int32 × JX) := nX (pX X (0) (upd (X (0)) 0 s0)) fun X2 => (if (X2 (0) 0) ≤ 0 then (if okI v1 60 = true then nV (X2 (6) v1.toNatClampNeg) fun t3 => (if okI v1 60 = true then nX (pX X2 (6) (upd (X2 (6)) v1.toNatClampNeg (0))) fun X4 => (if okI v1 60 = true then (if okI v1 60 = true then nX (pX X4 (5) (upd (X4 (5)) v1.toNatClampNeg ((X4 (5) v1.toNatClampNeg) + (1)))) fun X5 => (f_X11_over X5 v1).bind fun t6 => (f_X11_comes X5 t6 (1) v1).bind fun X7 => some (t3, X7) else none) else none) else none) else none) else some (0, X2))
def f_X11_empty (X : JX) (v1 : Int32) : Option (Int32 × JX) := (f_X11_isFileAt X v1).bind fun t1 => (if ¬ t1 = 0 then (if okI v1 60 = true then (if (X (8) v1.toNatClampNeg) = 0 then b_X11_empty_27 X v1 (0) else b_X11_empty_27 X v1 (2)) else none) else b_X11_empty_27 X v1 (1))
def b_X11_entries_32 (rec9 : Int32 → Int32 → Option (Int32 × JX)) (X : JX) (v2 : Int32) (s0 : Int32) (s1 : Int32) : Option (Int32 × JX) := nV (s1 + s0) fun t2 => nV (v2 + 1) fun t3 => rec9 t2 t3
def lb_X11_entries_9 (X : JX) (rec9 : Int32 → Int32 → Option (Int32 × JX)) (v1 : Int32) (v2 : Int32) : Option (Int32 × JX) := (if (X (0) 2) ≤ v2 then some (v1, X) else (if okI v2 60 = true then (if (X (19) v2.toNatClampNeg) = 0 then b_X11_entries_32 rec9 X v2 (0) v1 else b_X11_entries_32 rec9 X v2 (1) v1) else none))
def l_X11_entries_9 (X : JX) : Int32 → Int32 → Option (Int32 × JX) := loop2 (lb_X11_entries_9 X) 1000
def f_X11_entries (X : JX) : Option (Int32 × JX) := nX (pX X (0) (upd (X (0)) 0 (0))) fun X1 => l_X11_entries_9 X1 (0) (0)
def b_X11_holdsRoot_45 (rec4 : Int32 → Int32 → Option Int32) (X : JX) (v1 : Int32) (v3 : Int32) (s0 : Int32) : Option Int32 := nV (v3 + 1) fun t2 => rec4 s0 t2
def lb_X11_holdsRoot_4 (X : JX) (v1 : Int32) (rec4 : Int32 → Int32 → Option Int32) (v2 : Int32) (v3 : Int32) : Option Int32 := (if (X (0) 12) ≤ v3 then (if okB v2 = true then some v2 else none) else (if ¬ v2 = 0 then b_X11_holdsRoot_45 rec4 X v1 v3 (1) else (if okI v3 4 = true then (if (X (10) v3.toNatClampNeg) = v1 then b_X11_holdsRoot_45 rec4 X v1 v3 (1) else (if okI v3 4 = true then (f_X11_isBelow X (X (10) v3.toNatClampNeg) v1).bind fun t1 => (if t1 = 0 then b_X11_holdsRoot_45 rec4 X v1 v3 (0) else b_X11_holdsRoot_45 rec4 X v1 v3 (1)) else none)) else none)))
def l_X11_holdsRoot_4 (X : JX) (v1 : Int32) : Int32 → Int32 → Option Int32 := loop2 (lb_X11_holdsRoot_4 X v1) 1000
def f_X11_holdsRoot (X : JX) (v1 : Int32) : Option Int32 := l_X11_holdsRoot_4 X v1 (0) (0)
def b_X11_joins_42 (rec12 : JX → Int32 → Option JX) (X : JX) (v1 : Int32) (v2 : Int32) (s0 : Int32) (s1 : Int32) (s2 : Int32) : Option JX := (if okI s2 600 = true then nX (pX X (28) (upd (X (28)) s2.toNatClampNeg (s1 - s0))) fun X2 => nV (v2 + 1) fun t3 => rec12 X2 t3 else none)
def lb_X11_joins_12 (v1 : Int32) (rec12 : JX → Int32 → Option JX) (X : JX) (v2 : Int32) : Option JX := (if (X (0) 37) ≤ v2 then some X else (if okI v2 600 = true then (if okI v2 600 = true then (if (X (28) v2.toNatClampNeg) ≤ v1 then b_X11_joins_42 rec12 X v1 v2 (0) (X (28) v2.toNatClampNeg) v2 else b_X11_joins_42 rec12 X v1 v2 (1) (X (28) v2.toNatClampNeg) v2) else none) else none))
def l_X11_joins_12 (v1 : Int32) : JX → Int32 → Option JX := loop2 (lb_X11_joins_12 v1) 1000
def f_X11_joins (X : JX) (v1 : Int32) : Option JX := nX (pX X (0) (upd (X (0)) 41 ((X (0) 41) - (1)))) fun X1 => l_X11_joins_12 v1 X1 (0)
def b_X11_indexes_199 (rec139 : JX → Option JX) (rec151 : Int32 → Int32 → Option JX) (X : JX) (v3 : Int32) (s0 : Int32) : Option JX := nV (v3 + 1) fun t21 => rec151 s0 t21
def lb_X11_indexes_151 (rec139 : JX → Option JX) (X : JX) (rec151 : Int32 → Int32 → Option JX) (v2 : Int32) (v3 : Int32) : Option JX := (if (X (0) 41) ≤ (v3 + (1)) then (f_X11_cleans X v2).bind fun X14 => (f_X11_cleans X14 (v2 + (1))).bind fun X15 => (f_X11_joins X15 v2).bind fun X16 => rec139 X16 else (f_X11_count X v3 (0)).bind fun t17 => (f_X11_count X (v3 + (1)) (0)).bind fun t18 => (f_X11_count X v2 (0)).bind fun t19 => (f_X11_count X (v2 + (1)) (0)).bind fun t20 => (if (t19 + t20) ≤ (t17 + t18) then b_X11_indexes_199 rec139 rec151 X v3 v2 else b_X11_indexes_199 rec139 rec151 X v3 v3))
def l_X11_indexes_151 (rec139 : JX → Option JX) (X : JX) : Int32 → Int32 → Option JX := loop2 (lb_X11_indexes_151 rec139 X) 1000
def lb_X11_indexes_139 (rec139 : JX → Option JX) (X : JX) : Option JX := (if (X (0) 41) ≤ 3 then some X else l_X11_indexes_151 rec139 X (0) (1))
def l_X11_indexes_139 : JX → Option JX := loop1 (lb_X11_indexes_139 ) 1000
def b_X11_indexes_133 (rec104 : JX → Int32 → Option JX) (X : JX) (v2 : Int32) : Option JX := nV (v2 + (-1)) fun t13 => rec104 X t13
def lb_X11_indexes_104 (rec104 : JX → Int32 → Option JX) (X : JX) (v2 : Int32) : Option JX := (if v2 < 0 then l_X11_indexes_139 X else (f_X11_count X v2 (0)).bind fun t9 => (f_X11_count X v2 (1)).bind fun t10 => (if ¬ t9 = t10 then b_X11_indexes_133 rec104 X v2 else (f_X11_cleans X v2).bind fun X11 => (f_X11_joins X11 v2).bind fun X12 => b_X11_indexes_133 rec104 X12 v2))
def l_X11_indexes_104 : JX → Int32 → Option JX := loop2 (lb_X11_indexes_104 ) 1000
def b_X11_indexes_93 (X : JX) (s0 : Int32) (s1 : Int32) : Option JX := nX (pX X (0) (upd (X (0)) 41 (s1 + s0))) fun X6 => nV ((X6 (0) 41) - (1)) fun t7 => l_X11_indexes_104 X6 t7
def b_X11_indexes_73 (rec4 : JX → Int32 → Int32 → Option JX) (X : JX) (v1 : Int32) (v2 : Int32) : Option JX := nV (v2 + 1) fun t8 => rec4 X v1 t8
def lb_X11_indexes_4 (rec4 : JX → Int32 → Int32 → Option JX) (X : JX) (v1 : Int32) (v2 : Int32) : Option JX := (if (X (0) 2) ≤ v2 then (if v1 = 0 then b_X11_indexes_93 X (0) (X (0) 41) else b_X11_indexes_93 X (1) (X (0) 41)) else (if okI v2 60 = true then (if (X (31) v2.toNatClampNeg) = 0 then b_X11_indexes_73 rec4 X v1 v2 else (if okI (X (0) 37) 600 = true then nX (pX X (28) (upd (X (28)) (X (0) 37).toNatClampNeg (X (0) 41))) fun X1 => (if okI (X1 (0) 37) 600 = true then nX (pX X1 (29) (upd (X1 (29)) (X1 (0) 37).toNatClampNeg v2)) fun X2 => (if okI (X2 (0) 37) 600 = true then nX (pX X2 (30) (upd (X2 (30)) (X2 (0) 37).toNatClampNeg (vp_nar .boolean (0)))) fun X3 => nX (pX X3 (0) (upd (X3 (0)) 37 ((X3 (0) 37) + (1)))) fun X4 => (if okI v2 60 = true then nX (pX X4 (31) (upd (X4 (31)) v2.toNatClampNeg (vp_nar .boolean (0)))) fun X5 => b_X11_indexes_73 rec4 X5 (1) v2 else none) else none) else none) else none)) else none))
def l_X11_indexes_4 : JX → Int32 → Int32 → Option JX := loop3 (lb_X11_indexes_4 ) 1000
def f_X11_indexes (X : JX) : Option JX := l_X11_indexes_4 X (0) (0)
def f_X11_isFolderAt (X : JX) (v1 : Int32) : Option Int32 := (f_X11_isNode X v1).bind fun t1 => (if t1 = 0 then some (0) else (if okI v1 60 = true then (if (X (2) v1.toNatClampNeg) = 0 then some (0) else some (1)) else none))
def f_X11_isQuiet (X : JX) : Option (Int32 × JX) := nX (pX X (0) (upd (X (0)) 0 (0))) fun X1 => (if ¬ (X1 (0) 30) = 0 then some (0, X1) else (f_X11_firstNoticed X1 ).bind fun t2 => (if ¬ t2 = -1 then some (0, X1) else (f_X11_firstCrawl X1 ).bind fun t3 => (if ¬ t3 = -1 then some (0, X1) else some (1, X1))))
def b_X11_isTaken_63 (rec6 : Int32 → Int32 → Option Int32) (X : JX) (v1 : Int32) (v2 : Int32) (v3 : Int32) (v5 : Int32) (s0 : Int32) : Option Int32 := nV (v5 + 1) fun t1 => rec6 s0 t1
def lb_X11_isTaken_6 (X : JX) (v1 : Int32) (v2 : Int32) (v3 : Int32) (rec6 : Int32 → Int32 → Option Int32) (v4 : Int32) (v5 : Int32) : Option Int32 := (if (X (0) 2) ≤ v5 then (if okB v4 = true then some v4 else none) else (if ¬ v4 = 0 then b_X11_isTaken_63 rec6 X v1 v2 v3 v5 (1) else (if v5 = v3 then b_X11_isTaken_63 rec6 X v1 v2 v3 v5 (0) else (if okI v5 60 = true then (if (X (1) v5.toNatClampNeg) = 0 then b_X11_isTaken_63 rec6 X v1 v2 v3 v5 (0) else (if okI v5 60 = true then (if ¬ (X (3) v5.toNatClampNeg) = v1 then b_X11_isTaken_63 rec6 X v1 v2 v3 v5 (0) else (if okI v5 60 = true then (if ¬ (X (4) v5.toNatClampNeg) = v2 then b_X11_isTaken_63 rec6 X v1 v2 v3 v5 (0) else b_X11_isTaken_63 rec6 X v1 v2 v3 v5 (1)) else none)) else none)) else none))))
def l_X11_isTaken_6 (X : JX) (v1 : Int32) (v2 : Int32) (v3 : Int32) : Int32 → Int32 → Option Int32 := loop2 (lb_X11_isTaken_6 X v1 v2 v3) 1000
def f_X11_isTaken (X : JX) (v1 : Int32) (v2 : Int32) (v3 : Int32) : Option Int32 := l_X11_isTaken_6 X v1 v2 v3 (0) (0)
def b_X11_limits_25 (X : JX) (v1 : Int32) (v2 : Int32) (s0 : Int32) : Option (Int32 × JX) := nX (pX X (0) (upd (X (0)) 0 s0)) fun X3 => (if (X3 (0) 0) ≤ 0 then nV (X3 (0) 29) fun t4 => nX (pX X3 (0) (upd (X3 (0)) 28 v1)) fun X5 => nX (pX X5 (0) (upd (X5 (0)) 29 v2)) fun X6 => some (t4, X6) else some (0, X3))
def f_X11_limits (X : JX) (v1 : Int32) (v2 : Int32) : Option (Int32 × JX) := (f_X11_in X v1 (0) (3)).bind fun t1 => (if t1 = 0 then b_X11_limits_25 X v1 v2 (1) else (f_X11_in X v2 (1) (20)).bind fun t2 => (if t2 = 0 then b_X11_limits_25 X v1 v2 (1) else b_X11_limits_25 X v1 v2 (0)))
def b_X11_lock_14 (X : JX) (v1 : Int32) (v2 : Int32) (s0 : Int32) : Option (Int32 × JX) := nX (pX X (0) (upd (X (0)) 0 s0)) fun X2 => (if (X2 (0) 0) ≤ 0 then (if okI v1 60 = true then nV (X2 (8) v1.toNatClampNeg) fun t3 => (if okI v1 60 = true then nX (pX X2 (8) (upd (X2 (8)) v1.toNatClampNeg (vp_nar .boolean v2))) fun X4 => (if okB t3 = true then some (t3, X4) else none) else none) else none) else some (0, X2))
def f_X11_lock (X : JX) (v1 : Int32) (v2 : Int32) : Option (Int32 × JX) := (f_X11_isFileAt X v1).bind fun t1 => (if t1 = 0 then b_X11_lock_14 X v1 v2 (1) else b_X11_lock_14 X v1 v2 (0))
def b_X11_looksAtLost_25 (rec2 : JX → Int32 → Option JX) (X : JX) (v1 : Int32) : Option JX := nV (v1 + 1) fun t2 => rec2 X t2
def lb_X11_looksAtLost_2 (rec2 : JX → Int32 → Option JX) (X : JX) (v1 : Int32) : Option JX := (if (X (0) 2) ≤ v1 then some X else (if okI v1 60 = true then (if (X (19) v1.toNatClampNeg) = 0 then b_X11_looksAtLost_25 rec2 X v1 else (f_X11_adds X v1 (1)).bind fun X1 => b_X11_looksAtLost_25 rec2 X1 v1) else none))
def l_X11_looksAtLost_2 : JX → Int32 → Option JX := loop2 (lb_X11_looksAtLost_2 ) 1000
def f_X11_looksAtLost (X : JX) : Option JX := l_X11_looksAtLost_2 X (0)
def b_X11_lose_70 (X : JX) (v3 : Int32) (s0 : Int32) (s1 : Int32) (s2 : Int32) : Option (Int32 × JX) := (if okI s2 4 = true then nX (pX X (11) (upd (X (11)) s2.toNatClampNeg (s1 - s0))) fun X4 => (if okI v3 4 = true then some ((X4 (11) v3.toNatClampNeg), X4) else none) else none)
def b_X11_lose_31 (X : JX) (v2 : Int32) (v3 : Int32) (s0 : Int32) : Option (Int32 × JX) := nX (pX X (0) (upd (X (0)) 0 s0)) fun X3 => (if (X3 (0) 0) ≤ 0 then (if okI v3 4 = true then (if okI v3 4 = true then (if (X3 (11) v3.toNatClampNeg) ≤ v2 then (if okI v3 4 = true then b_X11_lose_70 X3 v3 (X3 (11) v3.toNatClampNeg) (X3 (11) v3.toNatClampNeg) v3 else none) else b_X11_lose_70 X3 v3 v2 (X3 (11) v3.toNatClampNeg) v3) else none) else none) else some (0, X3))
def f_X11_lose (X : JX) (v1 : Int32) (v2 : Int32) : Option (Int32 × JX) := (f_X11_rootAt X v1).bind fun t1 => (if ¬ t1 = -1 then (f_X11_in X v2 (1) (8)).bind fun t2 => (if t2 = 0 then b_X11_lose_31 X v2 t1 (2) else b_X11_lose_31 X v2 t1 (0)) else b_X11_lose_31 X v2 t1 (1))
def b_X11_make_54 (X : JX) (v1 : Int32) (v2 : Int32) (v3 : Int32) (s0 : Int32) : Option (Int32 × JX) := nX (pX X (0) (upd (X (0)) 0 s0)) fun X5 => (if (X5 (0) 0) ≤ 0 then nV (X5 (0) 2) fun t6 => (if okI t6 60 = true then nX (pX X5 (1) (upd (X5 (1)) t6.toNatClampNeg (vp_nar .boolean (1)))) fun X7 => (if okI t6 60 = true then nX (pX X7 (2) (upd (X7 (2)) t6.toNatClampNeg (vp_nar .boolean v3))) fun X8 => (if okI t6 60 = true then nX (pX X8 (3) (upd (X8 (3)) t6.toNatClampNeg v1)) fun X9 => (if okI t6 60 = true then nX (pX X9 (4) (upd (X9 (4)) t6.toNatClampNeg (vp_nar .char v2))) fun X10 => (if okI t6 60 = true then nX (pX X10 (5) (upd (X10 (5)) t6.toNatClampNeg (1))) fun X11 => (if okI t6 60 = true then nX (pX X11 (9) (upd (X11 (9)) t6.toNatClampNeg (15))) fun X12 => nX (pX X12 (0) (upd (X12 (0)) 2 ((X12 (0) 2) + (1)))) fun X13 => (f_X11_over X13 t6).bind fun t14 => (f_X11_comes X13 t14 (0) t6).bind fun X15 => some (t6, X15) else none) else none) else none) else none) else none) else none) else some (0, X5))
def f_X11_make (X : JX) (v1 : Int32) (v2 : Int32) (v3 : Int32) : Option (Int32 × JX) := (f_X11_isFolderAt X v1).bind fun t1 => (if ¬ t1 = 0 then (f_X11_in X v2 (97) (122)).bind fun t2 => (if ¬ t2 = 0 then (f_X11_isTaken X v1 v2 (-1)).bind fun t3 => (if ¬ t3 = 0 then b_X11_make_54 X v1 v2 v3 (3) else (if ¬ (X (0) 2) = 60 then b_X11_make_54 X v1 v2 v3 (0) else b_X11_make_54 X v1 v2 v3 (3))) else b_X11_make_54 X v1 v2 v3 (2)) else (f_X11_fails X (1)).bind fun t4 => some (t4.1, t4.2))
def b_X11_mayRead_23 (X : JX) (v1 : Int32) (v2 : Int32) (s0 : Int32) : Option (Int32 × JX) := nX (pX X (0) (upd (X (0)) 0 s0)) fun X3 => (if ¬ (X3 (0) 0) = 0 then some (0, X3) else (f_X11_mayReadAt X3 v1 v2).bind fun t4 => (if t4 = 0 then some (0, X3) else some (1, X3)))
def f_X11_mayRead (X : JX) (v1 : Int32) (v2 : Int32) : Option (Int32 × JX) := (f_X11_in X v1 (0) (3)).bind fun t1 => (if t1 = 0 then b_X11_mayRead_23 X v1 v2 (1) else (f_X11_isNode X v2).bind fun t2 => (if t2 = 0 then b_X11_mayRead_23 X v1 v2 (1) else b_X11_mayRead_23 X v1 v2 (0)))
def b_X11_move_20 (X : JX) : Option (Int32 × JX) := (f_X11_fails X (1)).bind fun t4 => some (t4.1, t4.2)
def b_X11_move_184 (X : JX) (v1 : Int32) (v6 : Int32) (v8 : Int32) : Option (Int32 × JX) := (f_X11_comes X v8 (0) v1).bind fun X17 => some (v6, X17)
def b_X11_move_121 (X : JX) (v1 : Int32) (v2 : Int32) (v3 : Int32) (s0 : Int32) : Option (Int32 × JX) := nX (pX X (0) (upd (X (0)) 0 s0)) fun X10 => (if (X10 (0) 0) ≤ 0 then (if okI v1 60 = true then nV (X10 (3) v1.toNatClampNeg) fun t11 => (f_X11_over X10 v1).bind fun t12 => (if okI v1 60 = true then nX (pX X10 (3) (upd (X10 (3)) v1.toNatClampNeg v2)) fun X13 => (if okI v1 60 = true then nX (pX X13 (4) (upd (X13 (4)) v1.toNatClampNeg (vp_nar .char v3))) fun X14 => (f_X11_over X14 v1).bind fun t15 => (if t12 = t15 then b_X11_move_184 X14 v1 t11 t15 else (f_X11_comes X14 t12 (2) v1).bind fun X16 => b_X11_move_184 X16 v1 t11 t15) else none) else none) else none) else some (0, X10))
def b_X11_move_78 (X : JX) (v1 : Int32) (v2 : Int32) (v3 : Int32) (v4 : Int32) (s0 : Int32) : Option (Int32 × JX) := (f_X11_in X v3 (97) (122)).bind fun t8 => (if ¬ t8 = 0 then (if ¬ v4 = 0 then b_X11_move_121 X v1 v2 v3 (3) else (f_X11_isTaken X v2 v3 v1).bind fun t9 => (if ¬ t9 = 0 then b_X11_move_121 X v1 v2 v3 (3) else (if s0 = 0 then b_X11_move_121 X v1 v2 v3 (0) else b_X11_move_121 X v1 v2 v3 (3)))) else b_X11_move_121 X v1 v2 v3 (2))
def b_X11_move_45 (X : JX) (v1 : Int32) (v2 : Int32) (v3 : Int32) (s0 : Int32) : Option (Int32 × JX) := (f_X11_holdsRoot X v1).bind fun t5 => (if t5 = 0 then b_X11_move_78 X v1 v2 v3 s0 (0) else (f_X11_rootAt X v2).bind fun t6 => (if ¬ t6 = -1 then b_X11_move_78 X v1 v2 v3 s0 (1) else (f_X11_over X v2).bind fun t7 => (if t7 = -1 then b_X11_move_78 X v1 v2 v3 s0 (0) else b_X11_move_78 X v1 v2 v3 s0 (1))))
def f_X11_move (X : JX) (v1 : Int32) (v2 : Int32) (v3 : Int32) : Option (Int32 × JX) := (f_X11_isNode X v1).bind fun t1 => (if t1 = 0 then b_X11_move_20 X else (if v1 = 0 then b_X11_move_20 X else (f_X11_isFolderAt X v2).bind fun t2 => (if ¬ t2 = 0 then (if v2 = v1 then b_X11_move_45 X v1 v2 v3 (1) else (f_X11_isBelow X v2 v1).bind fun t3 => (if t3 = 0 then b_X11_move_45 X v1 v2 v3 (0) else b_X11_move_45 X v1 v2 v3 (1))) else b_X11_move_20 X)))
def b_X11_nodes_32 (rec9 : Int32 → Int32 → Option (Int32 × JX)) (X : JX) (v2 : Int32) (s0 : Int32) (s1 : Int32) : Option (Int32 × JX) := nV (s1 + s0) fun t2 => nV (v2 + 1) fun t3 => rec9 t2 t3
def lb_X11_nodes_9 (X : JX) (rec9 : Int32 → Int32 → Option (Int32 × JX)) (v1 : Int32) (v2 : Int32) : Option (Int32 × JX) := (if (X (0) 2) ≤ v2 then some (v1, X) else (if okI v2 60 = true then (if (X (1) v2.toNatClampNeg) = 0 then b_X11_nodes_32 rec9 X v2 (0) v1 else b_X11_nodes_32 rec9 X v2 (1) v1) else none))
def l_X11_nodes_9 (X : JX) : Int32 → Int32 → Option (Int32 × JX) := loop2 (lb_X11_nodes_9 X) 1000
def f_X11_nodes (X : JX) : Option (Int32 × JX) := nX (pX X (0) (upd (X (0)) 0 (0))) fun X1 => l_X11_nodes_9 X1 (0) (0)
def b_X11_notices_35 (X : JX) (v2 : Int32) (s0 : Int32) : Option (Int32 × JX) := nX (pX X (0) (upd (X (0)) 0 s0)) fun X3 => (if (X3 (0) 0) ≤ 0 then (if okI v2 4 = true then (if (X3 (14) v2.toNatClampNeg) = 0 then (if okI v2 4 = true then some ((X3 (11) v2.toNatClampNeg), X3) else none) else some (-1, X3)) else none) else some (0, X3))
def b_X11_notices_23 (X : JX) (s0 : Int32) : Option (Int32 × JX) := (if ¬ s0 = -1 then b_X11_notices_35 X s0 (0) else b_X11_notices_35 X s0 (1))
def f_X11_notices (X : JX) (v1 : Int32) : Option (Int32 × JX) := (f_X11_in X v1 (0) ((X (0) 2) - (1))).bind fun t1 => (if t1 = 0 then b_X11_notices_23 X (-1) else (f_X11_rootAt X v1).bind fun t2 => b_X11_notices_23 X t2)
def b_X11_pass_52 (X : JX) (s0 : Int32) (s1 : Int32) : Option (Int32 × JX) := nX (pX X (0) (upd (X (0)) 1 (s1 + s0))) fun X3 => (if (X3 (0) 0) ≤ 0 then some ((X3 (0) 1), X3) else some (0, X3))
def b_X11_pass_32 (X : JX) (v1 : Int32) (s0 : Int32) : Option (Int32 × JX) := nX (pX X (0) (upd (X (0)) 0 s0)) fun X2 => (if ¬ (X2 (0) 0) = 0 then b_X11_pass_52 X2 (0) (X2 (0) 1) else b_X11_pass_52 X2 v1 (X2 (0) 1))
def f_X11_pass (X : JX) (v1 : Int32) : Option (Int32 × JX) := (f_X11_in X v1 (1) (1000)).bind fun t1 => (if ¬ t1 = 0 then (if ((X (0) 1) + v1) ≤ 100000 then b_X11_pass_32 X v1 (0) else b_X11_pass_32 X v1 (2)) else b_X11_pass_32 X v1 (1))
def b_X11_people_28 (X : JX) (v1 : Int32) (v2 : Int32) (s0 : Int32) : Option (Int32 × JX) := nX (pX X (0) (upd (X (0)) 0 s0)) fun X3 => (if (X3 (0) 0) ≤ 0 then (if okI v1 60 = true then nV (X3 (9) v1.toNatClampNeg) fun t4 => (if okI v1 60 = true then nX (pX X3 (9) (upd (X3 (9)) v1.toNatClampNeg v2)) fun X5 => some (t4, X5) else none) else none) else some (0, X3))
def f_X11_people (X : JX) (v1 : Int32) (v2 : Int32) : Option (Int32 × JX) := (f_X11_isNode X v1).bind fun t1 => (if ¬ t1 = 0 then (f_X11_in X v2 (0) (15)).bind fun t2 => (if t2 = 0 then b_X11_people_28 X v1 v2 (2) else b_X11_people_28 X v1 v2 (0)) else b_X11_people_28 X v1 v2 (1))
def b_X11_remove_194 (rec168 : JX → Int32 → Option (Int32 × JX)) (X : JX) (v2 : Int32) (v3 : Int32) (v4 : Int32) : Option (Int32 × JX) := nV (v4 + (-1)) fun t15 => rec168 X t15
def lb_X11_remove_168 (v2 : Int32) (v3 : Int32) (rec168 : JX → Int32 → Option (Int32 × JX)) (X : JX) (v4 : Int32) : Option (Int32 × JX) := (if v4 < 0 then (if v3 ≤ (X (0) 12) then some (v2, X) else (f_X11_looksAtLost X ).bind fun X9 => some (v2, X9)) else (if okI v4 4 = true then (if okI (X (10) v4.toNatClampNeg) 60 = true then (if ¬ (X (1) (X (10) v4.toNatClampNeg).toNatClampNeg) = 0 then b_X11_remove_194 rec168 X v2 v3 v4 else (f_X11_drops X v4).bind fun X10 => b_X11_remove_194 rec168 X10 v2 v3 v4) else none) else none))
def l_X11_remove_168 (v2 : Int32) (v3 : Int32) : JX → Int32 → Option (Int32 × JX) := loop2 (lb_X11_remove_168 v2 v3) 1000
def b_X11_remove_148 (rec112 : JX → Int32 → Option (Int32 × JX)) (X : JX) (v2 : Int32) (v3 : Int32) (s0 : Int32) (s1 : Int32) : Option (Int32 × JX) := (if okI s1 60 = true then nX (pX X (1) (upd (X (1)) s1.toNatClampNeg (vp_nar .boolean s0))) fun X11 => nV (v3 + 1) fun t12 => rec112 X11 t12 else none)
def lb_X11_remove_112 (v2 : Int32) (rec112 : JX → Int32 → Option (Int32 × JX)) (X : JX) (v3 : Int32) : Option (Int32 × JX) := (if (X (0) 2) ≤ v3 then nV (X (0) 12) fun t6 => nV ((X (0) 12) - (1)) fun t7 => l_X11_remove_168 v2 t6 X t7 else (if okI v3 60 = true then (if (X (1) v3.toNatClampNeg) = 0 then b_X11_remove_148 rec112 X v2 v3 (0) v3 else (if okI v3 60 = true then (if ¬ (X (32) v3.toNatClampNeg) = 0 then b_X11_remove_148 rec112 X v2 v3 (0) v3 else b_X11_remove_148 rec112 X v2 v3 (1) v3) else none)) else none))
def l_X11_remove_112 (v2 : Int32) : JX → Int32 → Option (Int32 × JX) := loop2 (lb_X11_remove_112 v2) 1000
def b_X11_remove_102 (rec45 : JX → Int32 → Int32 → Option (Int32 × JX)) (X : JX) (v1 : Int32) (v3 : Int32) (s0 : Int32) (s1 : Int32) : Option (Int32 × JX) := nV (s1 + s0) fun t13 => nV (v3 + 1) fun t14 => rec45 X t13 t14
def b_X11_remove_86 (rec45 : JX → Int32 → Int32 → Option (Int32 × JX)) (X : JX) (v1 : Int32) (v2 : Int32) (v3 : Int32) (s0 : Int32) (s1 : Int32) : Option (Int32 × JX) := (if okI s1 60 = true then nX (pX X (32) (upd (X (32)) s1.toNatClampNeg (vp_nar .boolean s0))) fun X8 => (if okI v3 60 = true then (if (X8 (32) v3.toNatClampNeg) = 0 then b_X11_remove_102 rec45 X8 v1 v3 (0) v2 else b_X11_remove_102 rec45 X8 v1 v3 (1) v2) else none) else none)
def lb_X11_remove_45 (v1 : Int32) (rec45 : JX → Int32 → Int32 → Option (Int32 × JX)) (X : JX) (v2 : Int32) (v3 : Int32) : Option (Int32 × JX) := (if (X (0) 2) ≤ v3 then l_X11_remove_112 v2 X (0) else (if okI v3 60 = true then (if (X (1) v3.toNatClampNeg) = 0 then b_X11_remove_86 rec45 X v1 v2 v3 (0) v3 else (if v3 = v1 then b_X11_remove_86 rec45 X v1 v2 v3 (1) v3 else (f_X11_isBelow X v3 v1).bind fun t5 => (if t5 = 0 then b_X11_remove_86 rec45 X v1 v2 v3 (0) v3 else b_X11_remove_86 rec45 X v1 v2 v3 (1) v3))) else none))
def l_X11_remove_45 (v1 : Int32) : JX → Int32 → Int32 → Option (Int32 × JX) := loop3 (lb_X11_remove_45 v1) 1000
def b_X11_remove_18 (X : JX) (v1 : Int32) (s0 : Int32) : Option (Int32 × JX) := nX (pX X (0) (upd (X (0)) 0 s0)) fun X2 => (if (X2 (0) 0) ≤ 0 then (f_X11_over X2 v1).bind fun t3 => (f_X11_comes X2 t3 (2) v1).bind fun X4 => l_X11_remove_45 v1 X4 (0) (0) else some (0, X2))
def f_X11_remove (X : JX) (v1 : Int32) : Option (Int32 × JX) := (f_X11_isNode X v1).bind fun t1 => (if t1 = 0 then b_X11_remove_18 X v1 (1) else (if v1 = 0 then b_X11_remove_18 X v1 (1) else b_X11_remove_18 X v1 (0)))
def f_X11_segments (X : JX) : Option (Int32 × JX) := nX (pX X (0) (upd (X (0)) 0 (0))) fun X1 => some ((X1 (0) 41), X1)
def b_X11_stale_80 (rec9 : Int32 → Int32 → Option (Int32 × JX)) (X : JX) (v2 : Int32) (s0 : Int32) (s1 : Int32) : Option (Int32 × JX) := nV (s1 + s0) fun t5 => nV (v2 + 1) fun t6 => rec9 t5 t6
def b_X11_stale_59 (rec9 : Int32 → Int32 → Option (Int32 × JX)) (X : JX) (v2 : Int32) (v3 : Int32) (s0 : Int32) (s1 : Int32) : Option (Int32 × JX) := nV (s1 + s0) fun t4 => (if okI v2 60 = true then (if (X (19) v2.toNatClampNeg) = 0 then b_X11_stale_80 rec9 X v2 (0) t4 else (if ¬ v3 = 0 then b_X11_stale_80 rec9 X v2 (0) t4 else b_X11_stale_80 rec9 X v2 (1) t4)) else none)
def b_X11_stale_31 (rec9 : Int32 → Int32 → Option (Int32 × JX)) (X : JX) (v1 : Int32) (v2 : Int32) (s0 : Int32) : Option (Int32 × JX) := (if s0 = 0 then b_X11_stale_59 rec9 X v2 s0 (0) v1 else (if okI v2 60 = true then (if ¬ (X (2) v2.toNatClampNeg) = 0 then b_X11_stale_59 rec9 X v2 s0 (0) v1 else (f_X11_isKnown X v2).bind fun t3 => (if ¬ t3 = 0 then b_X11_stale_59 rec9 X v2 s0 (0) v1 else b_X11_stale_59 rec9 X v2 s0 (1) v1)) else none))
def lb_X11_stale_9 (X : JX) (rec9 : Int32 → Int32 → Option (Int32 × JX)) (v1 : Int32) (v2 : Int32) : Option (Int32 × JX) := (if (X (0) 2) ≤ v2 then some (v1, X) else (f_X11_over X v2).bind fun t2 => (if t2 = -1 then b_X11_stale_31 rec9 X v1 v2 (0) else b_X11_stale_31 rec9 X v1 v2 (1)))
def l_X11_stale_9 (X : JX) : Int32 → Int32 → Option (Int32 × JX) := loop2 (lb_X11_stale_9 X) 1000
def f_X11_stale (X : JX) : Option (Int32 × JX) := nX (pX X (0) (upd (X (0)) 0 (0))) fun X1 => l_X11_stale_9 X1 (0) (0)
def f_X11_thrown (X : JX) : Option Int32 := some (X (0) 0)
def b_X11_twice_30 (X : JX) (v2 : Int32) (s0 : Int32) : Option (Int32 × JX) := nX (pX X (0) (upd (X (0)) 0 s0)) fun X2 => (if (X2 (0) 0) ≤ 0 then (if okI v2 4 = true then (if okI ((((8) * v2) + (X2 (11) v2.toNatClampNeg)) - (1)) 32 = true then (if okI v2 4 = true then (if okI ((((8) * v2) + (X2 (11) v2.toNatClampNeg)) - (1)) 32 = true then (f_X11_comes X2 v2 (X2 (12) ((((8) * v2) + (X2 (11) v2.toNatClampNeg)) - (1)).toNatClampNeg) (X2 (13) ((((8) * v2) + (X2 (11) v2.toNatClampNeg)) - (1)).toNatClampNeg)).bind fun X3 => (if okI v2 4 = true then (if (X3 (14) v2.toNatClampNeg) = 0 then (if okI v2 4 = true then some ((X3 (11) v2.toNatClampNeg), X3) else none) else some (-1, X3)) else none) else none) else none) else none) else none) else some (0, X2))
def f_X11_twice (X : JX) (v1 : Int32) : Option (Int32 × JX) := (f_X11_rootAt X v1).bind fun t1 => (if ¬ t1 = -1 then (if okI t1 4 = true then (if ¬ (X (11) t1.toNatClampNeg) = 0 then b_X11_twice_30 X t1 (0) else b_X11_twice_30 X t1 (2)) else none) else b_X11_twice_30 X t1 (1))
def b_X11_watch_56 (X : JX) (v1 : Int32) (v2 : Int32) (s0 : Int32) : Option (Int32 × JX) := nX (pX X (0) (upd (X (0)) 0 s0)) fun X6 => (if (X6 (0) 0) ≤ 0 then (if ¬ v2 = -1 then (f_X11_drops X6 v2).bind fun X7 => (f_X11_looksAtLost X7 ).bind fun X8 => some ((X8 (0) 12), X8) else (if okI (X6 (0) 12) 4 = true then nX (pX X6 (10) (upd (X6 (10)) (X6 (0) 12).toNatClampNeg v1)) fun X9 => (if okI (X9 (0) 12) 4 = true then nX (pX X9 (11) (upd (X9 (11)) (X9 (0) 12).toNatClampNeg (0))) fun X10 => (if okI (X10 (0) 12) 4 = true then nX (pX X10 (14) (upd (X10 (14)) (X10 (0) 12).toNatClampNeg (vp_nar .boolean (0)))) fun X11 => nX (pX X11 (0) (upd (X11 (0)) 12 ((X11 (0) 12) + (1)))) fun X12 => (f_X11_beginsCrawl X12 ((X12 (0) 12) - (1))).bind fun X13 => some ((X13 (0) 12), X13) else none) else none) else none)) else some (0, X6))
def f_X11_watch (X : JX) (v1 : Int32) : Option (Int32 × JX) := (f_X11_isFolderAt X v1).bind fun t1 => (if ¬ t1 = 0 then (f_X11_rootAt X v1).bind fun t2 => (if ¬ t2 = -1 then b_X11_watch_56 X v1 t2 (0) else (if (X (0) 12) = 3 then b_X11_watch_56 X v1 t2 (2) else (f_X11_holdsRoot X v1).bind fun t3 => (if ¬ t3 = 0 then b_X11_watch_56 X v1 t2 (2) else (f_X11_over X v1).bind fun t4 => (if t4 = -1 then b_X11_watch_56 X v1 t2 (0) else b_X11_watch_56 X v1 t2 (2))))) else (f_X11_fails X (1)).bind fun t5 => some (t5.1, t5.2))
def lb_X11_work_151 (v3 : Int32) (rec151 : JX → Int32 → Option (Int32 × JX)) (X : JX) (v5 : Int32) : Option (Int32 × JX) := (if (X (0) 30) ≤ v5 then (f_X11_indexes X ).bind fun X9 => some (v3, X9) else (if okI v5 60 = true then nX (pX X (27) (upd (X (27)) v5.toNatClampNeg (vp_nar .boolean (0)))) fun X10 => nV (v5 + 1) fun t11 => rec151 X10 t11 else none))
def l_X11_work_151 (v3 : Int32) : JX → Int32 → Option (Int32 × JX) := loop2 (lb_X11_work_151 v3) 1000
def b_X11_work_144 (X : JX) (v3 : Int32) (s0 : Int32) (s1 : Int32) : Option (Int32 × JX) := nX (pX X (0) (upd (X (0)) 36 (s1 + s0))) fun X8 => l_X11_work_151 v3 X8 (0)
def lb_X11_work_105 (v2 : Int32) (rec105 : JX → Int32 → Int32 → Option (Int32 × JX)) (X : JX) (v3 : Int32) (v4 : Int32) : Option (Int32 × JX) := (if v4 ≤ 0 then (if (X (0) 34) = 0 then b_X11_work_144 X v3 (0) (X (0) 36) else b_X11_work_144 X v3 v3 (X (0) 36)) else nV (v3 + v4) fun t6 => (f_X11_does X (v2 - t6)).bind fun t7 => rec105 t7.2 t6 t7.1)
def l_X11_work_105 (v2 : Int32) : JX → Int32 → Int32 → Option (Int32 × JX) := loop3 (lb_X11_work_105 v2) 1000
def b_X11_work_95 (X : JX) (s0 : Int32) : Option (Int32 × JX) := (f_X11_does X s0).bind fun t5 => l_X11_work_105 s0 t5.2 (0) t5.1
def b_X11_work_52 (X : JX) (v1 : Int32) (s0 : Int32) : Option (Int32 × JX) := nX (pX X (0) (upd (X (0)) 36 s0)) fun X3 => nX (pX X3 (0) (upd (X3 (0)) 35 ((X3 (0) 1) / (60)))) fun X4 => (if (X4 (0) 34) = 0 then b_X11_work_95 X4 v1 else (if v1 ≤ ((20) - (X4 (0) 36)) then b_X11_work_95 X4 v1 else b_X11_work_95 X4 ((20) - (X4 (0) 36))))
def b_X11_work_17 (X : JX) (v1 : Int32) (s0 : Int32) : Option (Int32 × JX) := nX (pX X (0) (upd (X (0)) 0 s0)) fun X2 => (if (X2 (0) 0) ≤ 0 then (if ¬ (X2 (0) 35) = ((X2 (0) 1) / (60)) then b_X11_work_52 X2 v1 (0) else b_X11_work_52 X2 v1 (X2 (0) 36)) else some (0, X2))
def f_X11_work (X : JX) (v1 : Int32) : Option (Int32 × JX) := (f_X11_in X v1 (1) (500)).bind fun t1 => (if t1 = 0 then b_X11_work_17 X v1 (1) else b_X11_work_17 X v1 (0))
def b_X11_write_58 (X : JX) (v1 : Int32) (v2 : Int32) (s0 : Int32) : Option (Int32 × JX) := nX (pX X (0) (upd (X (0)) 0 s0)) fun X3 => (if (X3 (0) 0) ≤ 0 then (if okI v1 60 = true then (if okI (((20) * v1) + (X3 (6) v1.toNatClampNeg)) 1200 = true then nX (pX X3 (7) (upd (X3 (7)) (((20) * v1) + (X3 (6) v1.toNatClampNeg)).toNatClampNeg v2)) fun X4 => (if okI v1 60 = true then (if okI v1 60 = true then nX (pX X4 (6) (upd (X4 (6)) v1.toNatClampNeg ((X4 (6) v1.toNatClampNeg) + (1)))) fun X5 => (if okI v1 60 = true then (if okI v1 60 = true then nX (pX X5 (5) (upd (X5 (5)) v1.toNatClampNeg ((X5 (5) v1.toNatClampNeg) + (1)))) fun X6 => (f_X11_over X6 v1).bind fun t7 => (f_X11_comes X6 t7 (1) v1).bind fun X8 => (if okI v1 60 = true then some ((X8 (5) v1.toNatClampNeg), X8) else none) else none) else none) else none) else none) else none) else none) else some (0, X3))
def f_X11_write (X : JX) (v1 : Int32) (v2 : Int32) : Option (Int32 × JX) := (f_X11_isFileAt X v1).bind fun t1 => (if ¬ t1 = 0 then (f_X11_in X v2 (-3) (99)).bind fun t2 => (if t2 = 0 then b_X11_write_58 X v1 v2 (2) else (if ¬ v2 = -1 then (if okI v1 60 = true then (if ¬ (X (8) v1.toNatClampNeg) = 0 then b_X11_write_58 X v1 v2 (3) else (if okI v1 60 = true then (if ¬ (X (6) v1.toNatClampNeg) = 20 then b_X11_write_58 X v1 v2 (0) else b_X11_write_58 X v1 v2 (3)) else none)) else none) else b_X11_write_58 X v1 v2 (2))) else b_X11_write_58 X v1 v2 (1))
end
