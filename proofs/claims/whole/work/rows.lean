section
-- ===== PART A: goes FIRST, ahead of the names: the tables' words, and 'selects' of the private methods out of them =====
/-- a private method of a class that the tables say can be made, by its rows of tables_1 -/
def lw_okq (q : MethodName × Nat) : Prop := (q.1.cls ≠ "java/lang/invoke/MethodHandle" ∧ q.1.cls ≠ "java/lang/invoke/VarHandle") ∧ Cond.instantiable q.1.cls q.2 ∈ tables_1 ∧ Cond.privateMethod q.1 ∈ tables_1 ∧ Cond.instanceMethod q.1 ∈ tables_1
theorem lw_p0 : lw_okq (⟨"java/lang/Throwable", "fillInStackTrace", "(I)Ljava/lang/Throwable;"⟩, 6) := ⟨⟨by decide +kernel, by decide +kernel⟩, List.mem_of_getElem? (i := 485) (by decide +kernel), List.mem_of_getElem? (i := 483) (by decide +kernel), List.mem_of_getElem? (i := 484) (by decide +kernel)⟩
theorem lw_p1 : lw_okq (⟨"SearchKeeper$Keeper", "doNext", "(I)I"⟩, 6) := ⟨⟨by decide +kernel, by decide +kernel⟩, List.mem_of_getElem? (i := 200) (by decide +kernel), List.mem_of_getElem? (i := 829) (by decide +kernel), List.mem_of_getElem? (i := 830) (by decide +kernel)⟩
theorem lw_p2 : lw_okq (⟨"SearchKeeper$Keeper", "hear", "(LSearchKeeper$Root;)V"⟩, 6) := ⟨⟨by decide +kernel, by decide +kernel⟩, List.mem_of_getElem? (i := 200) (by decide +kernel), List.mem_of_getElem? (i := 834) (by decide +kernel), List.mem_of_getElem? (i := 835) (by decide +kernel)⟩
theorem lw_p3 : lw_okq (⟨"SearchKeeper$Keeper", "act", "(II)I"⟩, 6) := ⟨⟨by decide +kernel, by decide +kernel⟩, List.mem_of_getElem? (i := 200) (by decide +kernel), List.mem_of_getElem? (i := 847) (by decide +kernel), List.mem_of_getElem? (i := 848) (by decide +kernel)⟩
theorem lw_p4 : lw_okq (⟨"SearchKeeper$Keeper", "lookAtFile", "(II)I"⟩, 6) := ⟨⟨by decide +kernel, by decide +kernel⟩, List.mem_of_getElem? (i := 200) (by decide +kernel), List.mem_of_getElem? (i := 857) (by decide +kernel), List.mem_of_getElem? (i := 858) (by decide +kernel)⟩
theorem lw_p5 : lw_okq (⟨"SearchKeeper$Keeper", "lookAtFolder", "(I)V"⟩, 6) := ⟨⟨by decide +kernel, by decide +kernel⟩, List.mem_of_getElem? (i := 200) (by decide +kernel), List.mem_of_getElem? (i := 915) (by decide +kernel), List.mem_of_getElem? (i := 916) (by decide +kernel)⟩
theorem lw_p6 : lw_okq (⟨"SearchKeeper$Keeper", "crawlOn", "(LSearchKeeper$Root;)V"⟩, 6) := ⟨⟨by decide +kernel, by decide +kernel⟩, List.mem_of_getElem? (i := 200) (by decide +kernel), List.mem_of_getElem? (i := 924) (by decide +kernel), List.mem_of_getElem? (i := 925) (by decide +kernel)⟩
theorem lw_p7 : lw_okq (⟨"SearchKeeper$Keeper", "meetAllIn", "(ILSearchKeeper$Crawl;)V"⟩, 6) := ⟨⟨by decide +kernel, by decide +kernel⟩, List.mem_of_getElem? (i := 200) (by decide +kernel), List.mem_of_getElem? (i := 933) (by decide +kernel), List.mem_of_getElem? (i := 934) (by decide +kernel)⟩
theorem lw_p8 : lw_okq (⟨"SearchKeeper$Keeper", "lookAtUnmet", "(LSearchKeeper$Crawl;)V"⟩, 6) := ⟨⟨by decide +kernel, by decide +kernel⟩, List.mem_of_getElem? (i := 200) (by decide +kernel), List.mem_of_getElem? (i := 944) (by decide +kernel), List.mem_of_getElem? (i := 945) (by decide +kernel)⟩
theorem lw_p9 : lw_okq (⟨"SearchKeeper$Index", "bury", "(I)V"⟩, 4) := ⟨⟨by decide +kernel, by decide +kernel⟩, List.mem_of_getElem? (i := 225) (by decide +kernel), List.mem_of_getElem? (i := 965) (by decide +kernel), List.mem_of_getElem? (i := 966) (by decide +kernel)⟩
theorem lw_p10 : lw_okq (⟨"SearchKeeper$Index", "addSegment", "(LSearchKeeper$Entries;)V"⟩, 4) := ⟨⟨by decide +kernel, by decide +kernel⟩, List.mem_of_getElem? (i := 225) (by decide +kernel), List.mem_of_getElem? (i := 969) (by decide +kernel), List.mem_of_getElem? (i := 970) (by decide +kernel)⟩
theorem lw_p11 : lw_okq (⟨"SearchKeeper$Index", "close", "(I)V"⟩, 4) := ⟨⟨by decide +kernel, by decide +kernel⟩, List.mem_of_getElem? (i := 225) (by decide +kernel), List.mem_of_getElem? (i := 973) (by decide +kernel), List.mem_of_getElem? (i := 974) (by decide +kernel)⟩
theorem lw_p12 : lw_okq (⟨"SearchKeeper$Index", "smallestPair", "()I"⟩, 4) := ⟨⟨by decide +kernel, by decide +kernel⟩, List.mem_of_getElem? (i := 225) (by decide +kernel), List.mem_of_getElem? (i := 977) (by decide +kernel), List.mem_of_getElem? (i := 978) (by decide +kernel)⟩
theorem lw_p13 : lw_okq (⟨"SearchKeeper$Index", "joinWithNext", "(I)V"⟩, 4) := ⟨⟨by decide +kernel, by decide +kernel⟩, List.mem_of_getElem? (i := 225) (by decide +kernel), List.mem_of_getElem? (i := 981) (by decide +kernel), List.mem_of_getElem? (i := 982) (by decide +kernel)⟩
theorem lw_p14 : lw_okq (⟨"SearchKeeper", "isMadeOrNone", "(I)Z"⟩, 9) := ⟨⟨by decide +kernel, by decide +kernel⟩, List.mem_of_getElem? (i := 21) (by decide +kernel), List.mem_of_getElem? (i := 1018) (by decide +kernel), List.mem_of_getElem? (i := 1019) (by decide +kernel)⟩
theorem lw_p15 : lw_okq (⟨"SearchKeeper$Questions", "scoreOf", "(IIII)I"⟩, 6) := ⟨⟨by decide +kernel, by decide +kernel⟩, List.mem_of_getElem? (i := 263) (by decide +kernel), List.mem_of_getElem? (i := 1032) (by decide +kernel), List.mem_of_getElem? (i := 1033) (by decide +kernel)⟩
def lw_privs_1 : List (MethodName × Nat) := [(⟨"java/lang/Throwable", "fillInStackTrace", "(I)Ljava/lang/Throwable;"⟩, 6), (⟨"SearchKeeper$Keeper", "doNext", "(I)I"⟩, 6), (⟨"SearchKeeper$Keeper", "hear", "(LSearchKeeper$Root;)V"⟩, 6), (⟨"SearchKeeper$Keeper", "act", "(II)I"⟩, 6), (⟨"SearchKeeper$Keeper", "lookAtFile", "(II)I"⟩, 6), (⟨"SearchKeeper$Keeper", "lookAtFolder", "(I)V"⟩, 6), (⟨"SearchKeeper$Keeper", "crawlOn", "(LSearchKeeper$Root;)V"⟩, 6), (⟨"SearchKeeper$Keeper", "meetAllIn", "(ILSearchKeeper$Crawl;)V"⟩, 6), (⟨"SearchKeeper$Keeper", "lookAtUnmet", "(LSearchKeeper$Crawl;)V"⟩, 6), (⟨"SearchKeeper$Index", "bury", "(I)V"⟩, 4), (⟨"SearchKeeper$Index", "addSegment", "(LSearchKeeper$Entries;)V"⟩, 4), (⟨"SearchKeeper$Index", "close", "(I)V"⟩, 4), (⟨"SearchKeeper$Index", "smallestPair", "()I"⟩, 4), (⟨"SearchKeeper$Index", "joinWithNext", "(I)V"⟩, 4), (⟨"SearchKeeper", "isMadeOrNone", "(I)Z"⟩, 9), (⟨"SearchKeeper$Questions", "scoreOf", "(IIII)I"⟩, 6)]
theorem lw_r1 : ∀ q ∈ lw_privs_1, lw_okq q := List.forall_mem_cons.mpr ⟨lw_p0, List.forall_mem_cons.mpr ⟨lw_p1, List.forall_mem_cons.mpr ⟨lw_p2, List.forall_mem_cons.mpr ⟨lw_p3, List.forall_mem_cons.mpr ⟨lw_p4, List.forall_mem_cons.mpr ⟨lw_p5, List.forall_mem_cons.mpr ⟨lw_p6, List.forall_mem_cons.mpr ⟨lw_p7, List.forall_mem_cons.mpr ⟨lw_p8, List.forall_mem_cons.mpr ⟨lw_p9, List.forall_mem_cons.mpr ⟨lw_p10, List.forall_mem_cons.mpr ⟨lw_p11, List.forall_mem_cons.mpr ⟨lw_p12, List.forall_mem_cons.mpr ⟨lw_p13, List.forall_mem_cons.mpr ⟨lw_p14, List.forall_mem_cons.mpr ⟨lw_p15, fun _ h => absurd h List.not_mem_nil⟩⟩⟩⟩⟩⟩⟩⟩⟩⟩⟩⟩⟩⟩⟩⟩
theorem lw_p16 : lw_okq (⟨"SearchKeeper$Questions", "isWithinNow", "(II)Z"⟩, 6) := ⟨⟨by decide +kernel, by decide +kernel⟩, List.mem_of_getElem? (i := 263) (by decide +kernel), List.mem_of_getElem? (i := 1058) (by decide +kernel), List.mem_of_getElem? (i := 1059) (by decide +kernel)⟩
theorem lw_p17 : lw_okq (⟨"SearchKeeper$Questions", "countAhead", "(I)I"⟩, 6) := ⟨⟨by decide +kernel, by decide +kernel⟩, List.mem_of_getElem? (i := 263) (by decide +kernel), List.mem_of_getElem? (i := 1079) (by decide +kernel), List.mem_of_getElem? (i := 1080) (by decide +kernel)⟩
theorem lw_p18 : lw_okq (⟨"SearchKeeperModel", "isFolderAt", "(I)Z"⟩, 46) := ⟨⟨by decide +kernel, by decide +kernel⟩, List.mem_of_getElem? (i := 1100) (by decide +kernel), List.mem_of_getElem? (i := 1253) (by decide +kernel), List.mem_of_getElem? (i := 1254) (by decide +kernel)⟩
theorem lw_p19 : lw_okq (⟨"SearchKeeperModel", "isNode", "(I)Z"⟩, 46) := ⟨⟨by decide +kernel, by decide +kernel⟩, List.mem_of_getElem? (i := 1100) (by decide +kernel), List.mem_of_getElem? (i := 1257) (by decide +kernel), List.mem_of_getElem? (i := 1258) (by decide +kernel)⟩
theorem lw_p20 : lw_okq (⟨"SearchKeeperModel", "fails", "(I)I"⟩, 46) := ⟨⟨by decide +kernel, by decide +kernel⟩, List.mem_of_getElem? (i := 1100) (by decide +kernel), List.mem_of_getElem? (i := 1264) (by decide +kernel), List.mem_of_getElem? (i := 1265) (by decide +kernel)⟩
theorem lw_p21 : lw_okq (⟨"SearchKeeperModel", "isTaken", "(ICI)Z"⟩, 46) := ⟨⟨by decide +kernel, by decide +kernel⟩, List.mem_of_getElem? (i := 1100) (by decide +kernel), List.mem_of_getElem? (i := 1268) (by decide +kernel), List.mem_of_getElem? (i := 1269) (by decide +kernel)⟩
theorem lw_p22 : lw_okq (⟨"SearchKeeperModel", "over", "(I)I"⟩, 46) := ⟨⟨by decide +kernel, by decide +kernel⟩, List.mem_of_getElem? (i := 1100) (by decide +kernel), List.mem_of_getElem? (i := 1272) (by decide +kernel), List.mem_of_getElem? (i := 1273) (by decide +kernel)⟩
theorem lw_p23 : lw_okq (⟨"SearchKeeperModel", "isBelow", "(II)Z"⟩, 46) := ⟨⟨by decide +kernel, by decide +kernel⟩, List.mem_of_getElem? (i := 1100) (by decide +kernel), List.mem_of_getElem? (i := 1276) (by decide +kernel), List.mem_of_getElem? (i := 1277) (by decide +kernel)⟩
theorem lw_p24 : lw_okq (⟨"SearchKeeperModel", "comes", "(III)V"⟩, 46) := ⟨⟨by decide +kernel, by decide +kernel⟩, List.mem_of_getElem? (i := 1100) (by decide +kernel), List.mem_of_getElem? (i := 1280) (by decide +kernel), List.mem_of_getElem? (i := 1281) (by decide +kernel)⟩
theorem lw_p25 : lw_okq (⟨"SearchKeeperModel", "isFileAt", "(I)Z"⟩, 46) := ⟨⟨by decide +kernel, by decide +kernel⟩, List.mem_of_getElem? (i := 1100) (by decide +kernel), List.mem_of_getElem? (i := 1288) (by decide +kernel), List.mem_of_getElem? (i := 1289) (by decide +kernel)⟩
theorem lw_p26 : lw_okq (⟨"SearchKeeperModel", "holdsRoot", "(I)Z"⟩, 46) := ⟨⟨by decide +kernel, by decide +kernel⟩, List.mem_of_getElem? (i := 1100) (by decide +kernel), List.mem_of_getElem? (i := 1300) (by decide +kernel), List.mem_of_getElem? (i := 1301) (by decide +kernel)⟩
theorem lw_p27 : lw_okq (⟨"SearchKeeperModel", "rootAt", "(I)I"⟩, 46) := ⟨⟨by decide +kernel, by decide +kernel⟩, List.mem_of_getElem? (i := 1100) (by decide +kernel), List.mem_of_getElem? (i := 1304) (by decide +kernel), List.mem_of_getElem? (i := 1305) (by decide +kernel)⟩
theorem lw_p28 : lw_okq (⟨"SearchKeeperModel", "drops", "(I)V"⟩, 46) := ⟨⟨by decide +kernel, by decide +kernel⟩, List.mem_of_getElem? (i := 1100) (by decide +kernel), List.mem_of_getElem? (i := 1312) (by decide +kernel), List.mem_of_getElem? (i := 1313) (by decide +kernel)⟩
theorem lw_p29 : lw_okq (⟨"SearchKeeperModel", "looksAtLost", "()V"⟩, 46) := ⟨⟨by decide +kernel, by decide +kernel⟩, List.mem_of_getElem? (i := 1100) (by decide +kernel), List.mem_of_getElem? (i := 1316) (by decide +kernel), List.mem_of_getElem? (i := 1317) (by decide +kernel)⟩
theorem lw_p30 : lw_okq (⟨"SearchKeeperModel", "adds", "(II)V"⟩, 46) := ⟨⟨by decide +kernel, by decide +kernel⟩, List.mem_of_getElem? (i := 1100) (by decide +kernel), List.mem_of_getElem? (i := 1320) (by decide +kernel), List.mem_of_getElem? (i := 1321) (by decide +kernel)⟩
theorem lw_p31 : lw_okq (⟨"SearchKeeperModel", "mayReadAt", "(II)Z"⟩, 46) := ⟨⟨by decide +kernel, by decide +kernel⟩, List.mem_of_getElem? (i := 1100) (by decide +kernel), List.mem_of_getElem? (i := 1336) (by decide +kernel), List.mem_of_getElem? (i := 1337) (by decide +kernel)⟩
def lw_privs_2 : List (MethodName × Nat) := [(⟨"SearchKeeper$Questions", "isWithinNow", "(II)Z"⟩, 6), (⟨"SearchKeeper$Questions", "countAhead", "(I)I"⟩, 6), (⟨"SearchKeeperModel", "isFolderAt", "(I)Z"⟩, 46), (⟨"SearchKeeperModel", "isNode", "(I)Z"⟩, 46), (⟨"SearchKeeperModel", "fails", "(I)I"⟩, 46), (⟨"SearchKeeperModel", "isTaken", "(ICI)Z"⟩, 46), (⟨"SearchKeeperModel", "over", "(I)I"⟩, 46), (⟨"SearchKeeperModel", "isBelow", "(II)Z"⟩, 46), (⟨"SearchKeeperModel", "comes", "(III)V"⟩, 46), (⟨"SearchKeeperModel", "isFileAt", "(I)Z"⟩, 46), (⟨"SearchKeeperModel", "holdsRoot", "(I)Z"⟩, 46), (⟨"SearchKeeperModel", "rootAt", "(I)I"⟩, 46), (⟨"SearchKeeperModel", "drops", "(I)V"⟩, 46), (⟨"SearchKeeperModel", "looksAtLost", "()V"⟩, 46), (⟨"SearchKeeperModel", "adds", "(II)V"⟩, 46), (⟨"SearchKeeperModel", "mayReadAt", "(II)Z"⟩, 46)]
theorem lw_r2 : ∀ q ∈ lw_privs_2, lw_okq q := List.forall_mem_cons.mpr ⟨lw_p16, List.forall_mem_cons.mpr ⟨lw_p17, List.forall_mem_cons.mpr ⟨lw_p18, List.forall_mem_cons.mpr ⟨lw_p19, List.forall_mem_cons.mpr ⟨lw_p20, List.forall_mem_cons.mpr ⟨lw_p21, List.forall_mem_cons.mpr ⟨lw_p22, List.forall_mem_cons.mpr ⟨lw_p23, List.forall_mem_cons.mpr ⟨lw_p24, List.forall_mem_cons.mpr ⟨lw_p25, List.forall_mem_cons.mpr ⟨lw_p26, List.forall_mem_cons.mpr ⟨lw_p27, List.forall_mem_cons.mpr ⟨lw_p28, List.forall_mem_cons.mpr ⟨lw_p29, List.forall_mem_cons.mpr ⟨lw_p30, List.forall_mem_cons.mpr ⟨lw_p31, fun _ h => absurd h List.not_mem_nil⟩⟩⟩⟩⟩⟩⟩⟩⟩⟩⟩⟩⟩⟩⟩⟩
theorem lw_p32 : lw_okq (⟨"SearchKeeperModel", "beginsCrawl", "(I)V"⟩, 46) := ⟨⟨by decide +kernel, by decide +kernel⟩, List.mem_of_getElem? (i := 1100) (by decide +kernel), List.mem_of_getElem? (i := 1348) (by decide +kernel), List.mem_of_getElem? (i := 1349) (by decide +kernel)⟩
theorem lw_p33 : lw_okq (⟨"SearchKeeperModel", "does", "(I)I"⟩, 46) := ⟨⟨by decide +kernel, by decide +kernel⟩, List.mem_of_getElem? (i := 1100) (by decide +kernel), List.mem_of_getElem? (i := 1381) (by decide +kernel), List.mem_of_getElem? (i := 1382) (by decide +kernel)⟩
theorem lw_p34 : lw_okq (⟨"SearchKeeperModel", "firstNoticed", "()I"⟩, 46) := ⟨⟨by decide +kernel, by decide +kernel⟩, List.mem_of_getElem? (i := 1100) (by decide +kernel), List.mem_of_getElem? (i := 1385) (by decide +kernel), List.mem_of_getElem? (i := 1386) (by decide +kernel)⟩
theorem lw_p35 : lw_okq (⟨"SearchKeeperModel", "firstAct", "()I"⟩, 46) := ⟨⟨by decide +kernel, by decide +kernel⟩, List.mem_of_getElem? (i := 1100) (by decide +kernel), List.mem_of_getElem? (i := 1389) (by decide +kernel), List.mem_of_getElem? (i := 1390) (by decide +kernel)⟩
theorem lw_p36 : lw_okq (⟨"SearchKeeperModel", "firstCrawl", "()I"⟩, 46) := ⟨⟨by decide +kernel, by decide +kernel⟩, List.mem_of_getElem? (i := 1100) (by decide +kernel), List.mem_of_getElem? (i := 1393) (by decide +kernel), List.mem_of_getElem? (i := 1394) (by decide +kernel)⟩
theorem lw_p37 : lw_okq (⟨"SearchKeeperModel", "cost", "(I)I"⟩, 46) := ⟨⟨by decide +kernel, by decide +kernel⟩, List.mem_of_getElem? (i := 1100) (by decide +kernel), List.mem_of_getElem? (i := 1397) (by decide +kernel), List.mem_of_getElem? (i := 1398) (by decide +kernel)⟩
theorem lw_p38 : lw_okq (⟨"SearchKeeperModel", "notes", "(I)V"⟩, 46) := ⟨⟨by decide +kernel, by decide +kernel⟩, List.mem_of_getElem? (i := 1100) (by decide +kernel), List.mem_of_getElem? (i := 1401) (by decide +kernel), List.mem_of_getElem? (i := 1402) (by decide +kernel)⟩
theorem lw_p39 : lw_okq (⟨"SearchKeeperModel", "acts", "(I)V"⟩, 46) := ⟨⟨by decide +kernel, by decide +kernel⟩, List.mem_of_getElem? (i := 1100) (by decide +kernel), List.mem_of_getElem? (i := 1405) (by decide +kernel), List.mem_of_getElem? (i := 1406) (by decide +kernel)⟩
theorem lw_p40 : lw_okq (⟨"SearchKeeperModel", "takesAct", "(I)V"⟩, 46) := ⟨⟨by decide +kernel, by decide +kernel⟩, List.mem_of_getElem? (i := 1100) (by decide +kernel), List.mem_of_getElem? (i := 1409) (by decide +kernel), List.mem_of_getElem? (i := 1410) (by decide +kernel)⟩
theorem lw_p41 : lw_okq (⟨"SearchKeeperModel", "forgets", "(I)V"⟩, 46) := ⟨⟨by decide +kernel, by decide +kernel⟩, List.mem_of_getElem? (i := 1100) (by decide +kernel), List.mem_of_getElem? (i := 1413) (by decide +kernel), List.mem_of_getElem? (i := 1414) (by decide +kernel)⟩
theorem lw_p42 : lw_okq (⟨"SearchKeeperModel", "liesBelow", "(II)Z"⟩, 46) := ⟨⟨by decide +kernel, by decide +kernel⟩, List.mem_of_getElem? (i := 1100) (by decide +kernel), List.mem_of_getElem? (i := 1417) (by decide +kernel), List.mem_of_getElem? (i := 1418) (by decide +kernel)⟩
theorem lw_p43 : lw_okq (⟨"SearchKeeperModel", "kills", "(I)V"⟩, 46) := ⟨⟨by decide +kernel, by decide +kernel⟩, List.mem_of_getElem? (i := 1100) (by decide +kernel), List.mem_of_getElem? (i := 1421) (by decide +kernel), List.mem_of_getElem? (i := 1422) (by decide +kernel)⟩
theorem lw_p44 : lw_okq (⟨"SearchKeeperModel", "places", "(I)V"⟩, 46) := ⟨⟨by decide +kernel, by decide +kernel⟩, List.mem_of_getElem? (i := 1100) (by decide +kernel), List.mem_of_getElem? (i := 1425) (by decide +kernel), List.mem_of_getElem? (i := 1426) (by decide +kernel)⟩
theorem lw_p45 : lw_okq (⟨"SearchKeeperModel", "reads", "(I)V"⟩, 46) := ⟨⟨by decide +kernel, by decide +kernel⟩, List.mem_of_getElem? (i := 1100) (by decide +kernel), List.mem_of_getElem? (i := 1429) (by decide +kernel), List.mem_of_getElem? (i := 1430) (by decide +kernel)⟩
theorem lw_p46 : lw_okq (⟨"SearchKeeperModel", "takesWords", "(I)V"⟩, 46) := ⟨⟨by decide +kernel, by decide +kernel⟩, List.mem_of_getElem? (i := 1100) (by decide +kernel), List.mem_of_getElem? (i := 1433) (by decide +kernel), List.mem_of_getElem? (i := 1434) (by decide +kernel)⟩
theorem lw_p47 : lw_okq (⟨"SearchKeeperModel", "goesOn", "(I)V"⟩, 46) := ⟨⟨by decide +kernel, by decide +kernel⟩, List.mem_of_getElem? (i := 1100) (by decide +kernel), List.mem_of_getElem? (i := 1437) (by decide +kernel), List.mem_of_getElem? (i := 1438) (by decide +kernel)⟩
def lw_privs_3 : List (MethodName × Nat) := [(⟨"SearchKeeperModel", "beginsCrawl", "(I)V"⟩, 46), (⟨"SearchKeeperModel", "does", "(I)I"⟩, 46), (⟨"SearchKeeperModel", "firstNoticed", "()I"⟩, 46), (⟨"SearchKeeperModel", "firstAct", "()I"⟩, 46), (⟨"SearchKeeperModel", "firstCrawl", "()I"⟩, 46), (⟨"SearchKeeperModel", "cost", "(I)I"⟩, 46), (⟨"SearchKeeperModel", "notes", "(I)V"⟩, 46), (⟨"SearchKeeperModel", "acts", "(I)V"⟩, 46), (⟨"SearchKeeperModel", "takesAct", "(I)V"⟩, 46), (⟨"SearchKeeperModel", "forgets", "(I)V"⟩, 46), (⟨"SearchKeeperModel", "liesBelow", "(II)Z"⟩, 46), (⟨"SearchKeeperModel", "kills", "(I)V"⟩, 46), (⟨"SearchKeeperModel", "places", "(I)V"⟩, 46), (⟨"SearchKeeperModel", "reads", "(I)V"⟩, 46), (⟨"SearchKeeperModel", "takesWords", "(I)V"⟩, 46), (⟨"SearchKeeperModel", "goesOn", "(I)V"⟩, 46)]
theorem lw_r3 : ∀ q ∈ lw_privs_3, lw_okq q := List.forall_mem_cons.mpr ⟨lw_p32, List.forall_mem_cons.mpr ⟨lw_p33, List.forall_mem_cons.mpr ⟨lw_p34, List.forall_mem_cons.mpr ⟨lw_p35, List.forall_mem_cons.mpr ⟨lw_p36, List.forall_mem_cons.mpr ⟨lw_p37, List.forall_mem_cons.mpr ⟨lw_p38, List.forall_mem_cons.mpr ⟨lw_p39, List.forall_mem_cons.mpr ⟨lw_p40, List.forall_mem_cons.mpr ⟨lw_p41, List.forall_mem_cons.mpr ⟨lw_p42, List.forall_mem_cons.mpr ⟨lw_p43, List.forall_mem_cons.mpr ⟨lw_p44, List.forall_mem_cons.mpr ⟨lw_p45, List.forall_mem_cons.mpr ⟨lw_p46, List.forall_mem_cons.mpr ⟨lw_p47, fun _ h => absurd h List.not_mem_nil⟩⟩⟩⟩⟩⟩⟩⟩⟩⟩⟩⟩⟩⟩⟩⟩
theorem lw_p48 : lw_okq (⟨"SearchKeeperModel", "isKnown", "(I)Z"⟩, 46) := ⟨⟨by decide +kernel, by decide +kernel⟩, List.mem_of_getElem? (i := 1100) (by decide +kernel), List.mem_of_getElem? (i := 1441) (by decide +kernel), List.mem_of_getElem? (i := 1442) (by decide +kernel)⟩
theorem lw_p49 : lw_okq (⟨"SearchKeeperModel", "isWaiting", "(II)Z"⟩, 46) := ⟨⟨by decide +kernel, by decide +kernel⟩, List.mem_of_getElem? (i := 1100) (by decide +kernel), List.mem_of_getElem? (i := 1445) (by decide +kernel), List.mem_of_getElem? (i := 1446) (by decide +kernel)⟩
theorem lw_p50 : lw_okq (⟨"SearchKeeperModel", "indexes", "()V"⟩, 46) := ⟨⟨by decide +kernel, by decide +kernel⟩, List.mem_of_getElem? (i := 1100) (by decide +kernel), List.mem_of_getElem? (i := 1449) (by decide +kernel), List.mem_of_getElem? (i := 1450) (by decide +kernel)⟩
theorem lw_p51 : lw_okq (⟨"SearchKeeperModel", "count", "(IZ)I"⟩, 46) := ⟨⟨by decide +kernel, by decide +kernel⟩, List.mem_of_getElem? (i := 1100) (by decide +kernel), List.mem_of_getElem? (i := 1453) (by decide +kernel), List.mem_of_getElem? (i := 1454) (by decide +kernel)⟩
theorem lw_p52 : lw_okq (⟨"SearchKeeperModel", "cleans", "(I)V"⟩, 46) := ⟨⟨by decide +kernel, by decide +kernel⟩, List.mem_of_getElem? (i := 1100) (by decide +kernel), List.mem_of_getElem? (i := 1457) (by decide +kernel), List.mem_of_getElem? (i := 1458) (by decide +kernel)⟩
theorem lw_p53 : lw_okq (⟨"SearchKeeperModel", "takesPlace", "(I)V"⟩, 46) := ⟨⟨by decide +kernel, by decide +kernel⟩, List.mem_of_getElem? (i := 1100) (by decide +kernel), List.mem_of_getElem? (i := 1461) (by decide +kernel), List.mem_of_getElem? (i := 1462) (by decide +kernel)⟩
theorem lw_p54 : lw_okq (⟨"SearchKeeperModel", "joins", "(I)V"⟩, 46) := ⟨⟨by decide +kernel, by decide +kernel⟩, List.mem_of_getElem? (i := 1100) (by decide +kernel), List.mem_of_getElem? (i := 1465) (by decide +kernel), List.mem_of_getElem? (i := 1466) (by decide +kernel)⟩
theorem lw_p55 : lw_okq (⟨"SearchKeeperModel", "canAsk", "(IIII)Z"⟩, 46) := ⟨⟨by decide +kernel, by decide +kernel⟩, List.mem_of_getElem? (i := 1100) (by decide +kernel), List.mem_of_getElem? (i := 1505) (by decide +kernel), List.mem_of_getElem? (i := 1506) (by decide +kernel)⟩
theorem lw_p56 : lw_okq (⟨"SearchKeeperModel", "areWords", "(II)Z"⟩, 46) := ⟨⟨by decide +kernel, by decide +kernel⟩, List.mem_of_getElem? (i := 1100) (by decide +kernel), List.mem_of_getElem? (i := 1509) (by decide +kernel), List.mem_of_getElem? (i := 1510) (by decide +kernel)⟩
theorem lw_p57 : lw_okq (⟨"SearchKeeperModel", "isAnswer", "(IIIII)Z"⟩, 46) := ⟨⟨by decide +kernel, by decide +kernel⟩, List.mem_of_getElem? (i := 1100) (by decide +kernel), List.mem_of_getElem? (i := 1513) (by decide +kernel), List.mem_of_getElem? (i := 1514) (by decide +kernel)⟩
theorem lw_p58 : lw_okq (⟨"SearchKeeperModel", "has", "(III)Z"⟩, 46) := ⟨⟨by decide +kernel, by decide +kernel⟩, List.mem_of_getElem? (i := 1100) (by decide +kernel), List.mem_of_getElem? (i := 1517) (by decide +kernel), List.mem_of_getElem? (i := 1518) (by decide +kernel)⟩
theorem lw_p59 : lw_okq (⟨"SearchKeeperModel", "often", "(II)I"⟩, 46) := ⟨⟨by decide +kernel, by decide +kernel⟩, List.mem_of_getElem? (i := 1100) (by decide +kernel), List.mem_of_getElem? (i := 1521) (by decide +kernel), List.mem_of_getElem? (i := 1522) (by decide +kernel)⟩
theorem lw_p60 : lw_okq (⟨"SearchKeeperModel", "score", "(III)I"⟩, 46) := ⟨⟨by decide +kernel, by decide +kernel⟩, List.mem_of_getElem? (i := 1100) (by decide +kernel), List.mem_of_getElem? (i := 1533) (by decide +kernel), List.mem_of_getElem? (i := 1534) (by decide +kernel)⟩
def lw_privs_4 : List (MethodName × Nat) := [(⟨"SearchKeeperModel", "isKnown", "(I)Z"⟩, 46), (⟨"SearchKeeperModel", "isWaiting", "(II)Z"⟩, 46), (⟨"SearchKeeperModel", "indexes", "()V"⟩, 46), (⟨"SearchKeeperModel", "count", "(IZ)I"⟩, 46), (⟨"SearchKeeperModel", "cleans", "(I)V"⟩, 46), (⟨"SearchKeeperModel", "takesPlace", "(I)V"⟩, 46), (⟨"SearchKeeperModel", "joins", "(I)V"⟩, 46), (⟨"SearchKeeperModel", "canAsk", "(IIII)Z"⟩, 46), (⟨"SearchKeeperModel", "areWords", "(II)Z"⟩, 46), (⟨"SearchKeeperModel", "isAnswer", "(IIIII)Z"⟩, 46), (⟨"SearchKeeperModel", "has", "(III)Z"⟩, 46), (⟨"SearchKeeperModel", "often", "(II)I"⟩, 46), (⟨"SearchKeeperModel", "score", "(III)I"⟩, 46)]
theorem lw_r4 : ∀ q ∈ lw_privs_4, lw_okq q := List.forall_mem_cons.mpr ⟨lw_p48, List.forall_mem_cons.mpr ⟨lw_p49, List.forall_mem_cons.mpr ⟨lw_p50, List.forall_mem_cons.mpr ⟨lw_p51, List.forall_mem_cons.mpr ⟨lw_p52, List.forall_mem_cons.mpr ⟨lw_p53, List.forall_mem_cons.mpr ⟨lw_p54, List.forall_mem_cons.mpr ⟨lw_p55, List.forall_mem_cons.mpr ⟨lw_p56, List.forall_mem_cons.mpr ⟨lw_p57, List.forall_mem_cons.mpr ⟨lw_p58, List.forall_mem_cons.mpr ⟨lw_p59, List.forall_mem_cons.mpr ⟨lw_p60, fun _ h => absurd h List.not_mem_nil⟩⟩⟩⟩⟩⟩⟩⟩⟩⟩⟩⟩⟩
def lw_privs : List (MethodName × Nat) := lw_privs_1 ++ (lw_privs_2 ++ (lw_privs_3 ++ (lw_privs_4)))
def lw_tbl : List Cond := k2_sels lw_privs ++ tables_1
theorem lw_privs_ok : ∀ q ∈ lw_privs, lw_okq q := by
  show ∀ q ∈ lw_privs_1 ++ (lw_privs_2 ++ (lw_privs_3 ++ (lw_privs_4))), lw_okq q
  exact List.forall_mem_append.mpr ⟨lw_r1, List.forall_mem_append.mpr ⟨lw_r2, List.forall_mem_append.mpr ⟨lw_r3, lw_r4⟩⟩⟩
-- ===== end of PART A; then your names; then what follows =====
/-! ===== BEGIN words of one list among another's, by their places ===== -/
theorem goodIn_r {big : List Cond} (ws : List Cond) (ps : List Nat) (hp : ws = ps.filterMap (fun i => big[i]?)) (h : ws.all goodWord = true) : GoodIn big ws := by
  intro w hw
  have h1 := List.all_eq_true.mp h w hw
  rw [hp] at hw
  obtain ⟨i, -, hi⟩ := List.mem_filterMap.mp hw
  have hm : w ∈ big := by first | exact List.mem_of_getElem? hi | exact List.getElem?_mem hi
  exact ⟨hm, good_of_word h1⟩
theorem goodIn_app {big a b : List Cond} (ha : GoodIn big a) (hb : GoodIn big b) : GoodIn big (a ++ b) := fun w h => (List.mem_append.mp h).elim (ha w) (hb w)
theorem goodIn_ca {big a b : List Cond} {c : Cond} (ha : GoodIn big (c :: a)) (hb : GoodIn big b) : GoodIn big (c :: (a ++ b)) := fun w h => (List.mem_cons.mp h).elim (fun e => ha w (List.mem_cons.mpr (Or.inl e))) (fun h => (List.mem_append.mp h).elim (fun h => ha w (List.mem_cons.mpr (Or.inr h))) (hb w))
theorem goodIn_sub {big ws : List Cond} (hm : ∀ w ∈ ws, w ∈ big) (h : ws.all goodWord = true) : GoodIn big ws := fun w hw => ⟨hm w hw, good_of_word (List.all_eq_true.mp h w hw)⟩
/-! ===== END ===== -/

/-! ===== BEGIN exceptions that leave a method, and their catching by the caller (launches without stack traces) ===== -/
section VXA
/-! The laws vx_back, vx_callV, vx_callS, vx_callSW, vx_throw0, vx_throwS follow proofs of the library, with one case more: JvmDerived/Free/Laws.lean (Back.of_free), Shelf42/LK1.lean (callV, callS), Shelf/KitTraced.lean (throwNew0V, throwNewS). -/
/-- where a method has thrown q: the class by its name, the cell, what was written, the world -/
def vx_T (XC : String → State → State → Prop) (st : State) (q : Addr) (t : State) (mc ms : Nat) (free : Addr → Prop) : Prop :=
  ∃ (E : String) (ce : Cell) (L : List Loc), XC E st t ∧ t.heap[q]? = some ce ∧ ce.vm = .none ∧ st.vm.findClass E = some ce.cls ∧ st.WarmedH t.vm ∧ st.sameButNew ({ t with vm := st.vm } : State) L mc ms ∧ ∀ z ∈ L, free z.base
def vx_Q (Qc : Array Value → State → Outcome → State → Prop) (XC : String → State → State → Prop) (mc ms : Nat) (free : Addr → Prop) : Array Value → State → Outcome → State → Prop := fun a st o t =>
  (Qc a st o t ∧ ∃ L, FrameEnd st o t L mc ms ∧ ∀ q ∈ L, free q.base) ∨ ∃ q, o = .threw q ∧ vx_T XC st q t mc ms free
/-- a callee that returns or throws -/
def vx_Met (l : Launch) (y : MethodName) (ws : List Cond) (rm : Room) (Pc : Array Value → State → Prop) (Qc : Array Value → State → Outcome → State → Prop) (XC : String → State → State → Prop) (mc ms : Nat) (free : Addr → Prop) : Prop :=
  MetFree l y (headSpec ws rm) Pc (fun _ _ _ _ _ => True) (vx_Q Qc XC mc ms free)
def vx_Post (XC : String → State → State → Prop) (mc ms : Nat) (free : Addr → Prop) : Pt → Array Value → Addr → Pt → Prop := fun A a q B =>
  ∃ (g : JFrame) (mk : MethodId) (t : State) (L : List Loc) (E : String) (ce : Cell), B.U.heap = t.heap ∧ B.U.vm = t.vm ∧ XC E (A.U.calling g mk a) t ∧ t.heap[q]? = some ce ∧ ce.vm = .none ∧ A.U.vm.findClass E = some ce.cls ∧ B.locs = A.locs ++ L ∧ (∀ z ∈ L, free z.base) ∧ B.cells = A.cells + mc ∧ B.slots = A.slots + ms
def vx_Back (l : Launch) (R : Room) (p : Program) (e : Env) (below : List Frame) (s : State) (sargs : Array Value) (y : MethodName) (len W9 : Nat)
    (Pre : Pt → Array Value → Prop) (Post : Pt → Array Value → Option Value → Pt → Prop) (PostX : Pt → Array Value → Addr → Pt → Prop) : Prop :=
  ∀ (m : MethodId) (meth : Method) (c : Code) (A : Pt) (g : JFrame) (ig : Instr) (mk : MethodId) (a : Array Value),
    Stand p l e R s m sargs below meth c A.U A.locs A.cells A.slots → g.method = m → g.locals.size = c.maxLocals → decode c.code g.pc = .ok (ig, len) →
    2 * g.monitorRoom + (g.stack.map fun v => v.category).sum ≤ W9 → A.U.methodNamed? y = some mk → Pre A a →
    (∃ (v : Option Value) (B : Pt), Stand p l e R s m sargs below meth c B.U B.locs B.cells B.slots ∧ Post A a v B ∧
      Steps p.tables e below (doInvoke e (A.U.setTop g) [] mk a).1 (B.U.setTop { g with pc := g.pc + len, stack := v.toList ++ g.stack })) ∨
    (∃ (q : Addr) (B : Pt), Stand p l e R s m sargs below meth c B.U B.locs B.cells B.slots ∧ PostX A a q B ∧
      Steps p.tables e below (doInvoke e (A.U.setTop g) [] mk a).1 ((B.U.setTop g).pushFrame (.throwing q)))
section Payer
variable {l : Launch} {R : Room} {p : Program} {e : Env} {below : List Frame} {s : State} {sargs : Array Value} {y : MethodName} {len W9 : Nat}
theorem vx_back {ws : List Cond} {rm : Room} {Pc : Array Value → State → Prop} {Qc : Array Value → State → Outcome → State → Prop} {XC : String → State → State → Prop} {mc ms : Nat} {free : Addr → Prop} {bytes : ByteArray} {maxL : Nat} {ret : Option FieldType}
    (hM : vx_Met l y ws rm Pc Qc XC mc ms free) (hblind : FrameBlind Pc) (hrc : rm.cells = mc) (hrs : rm.slots = ms)
    (hframes : rm.frames + 1 ≤ R.frames) (hlocals : W9 + (maxL + 11) + rm.locals ≤ R.locals)
    (hws : ∀ w ∈ ws, ∀ a' U, s.WarmedH U.vm → w.before a' U = true) (hcode : Cond.code y bytes maxL ret ∈ ws) (hinit : ∀ a' U, s.WarmedH U.vm → (Cond.initialized y.cls).before a' U = true) :
    vx_Back l R p e below s sargs y len W9 (PreOf R mc ms Pc) (PostOf Qc mc ms free) (vx_Post XC mc ms free) := by
  intro m meth c A g ig mk a X hg hsize hdg hW hn hp
  have h1 : (headSpec ws rm).pre.before a A.U = true := atoms_intro fun w hw => hws w hw _ _ X.warmed
  have h2 : (Cond.code y bytes maxL ret).before a A.U = true := hws _ hcode _ _ X.warmed
  have h3 : (Cond.initialized y.cls).before a A.U = true := hinit _ _ X.warmed
  have h4 : A.cells + (headSpec ws rm).room.cells ≤ R.cells := by rw [show (headSpec ws rm).room.cells = mc from hrc]; exact hp.1
  have h5 : A.slots + (headSpec ws rm).room.slots ≤ R.slots := by rw [show (headSpec ws rm).room.slots = ms from hrs]; exact hp.2.1
  have hPc : Pc a (A.U.calling g mk a) := hblind _ _ _ _ hp.2.2
  obtain ⟨U, Ls, c0, s0⟩ := A
  dsimp only [Pt.U, Pt.locs, Pt.cells, Pt.slots] at h1 h2 h3 h4 h5 X hn hPc ⊢
  obtain ⟨methY, cY, hmY, hcY, -, hlY, -, -, -, -⟩ := Cond.code_spec hn h2
  obtain ⟨kY, hkY, -⟩ := className_of_methodNamed hn
  have hinitY : kY.init = .initialized := Cond.initialized_spec (findClass_of_methodNamed hn) hkY h3
  have h : At U g.method c below := by rw [hg]; exact X.here
  have hlocals9 : W9 + (maxL + 11) + (headSpec ws rm).room.locals ≤ R.locals := hlocals
  have happ : (headSpec ws rm).appliesLoose y e.platform (U.calling g mk a) = true :=
    Spec.appliesLoose_calling (g := g) h hdg hn hkY hinitY
      (X.room_calling (g := g) (R' := (headSpec ws rm).room) hsize hmY hcY hframes (by rw [hlY]; omega) h4 h5) h1
  obtain ⟨mid, hmid⟩ := h.above
  have hfr : (U.setTop g).frames = (.java g :: mid) ++ below := by rw [State.frames_setTop' g h.top, hmid]; rfl
  obtain ⟨o, s₂, hsteps, -, hend, hq⟩ := Steps.callFree hM p X.admits X.cas X.clock (acts := []) hfr happ hPc trivial
  have hq' : vx_Q Qc XC mc ms free a (U.calling g mk a) o s₂ := hq
  rw [State.frames_setTop' g h.top] at hend
  obtain ⟨g₀, hg0⟩ := Option.isSome_iff_exists.mp h.top
  obtain ⟨r, hr⟩ := State.topJava?_eq_some.mp hg0
  have hr' : (({ U with heap := s₂.heap, slotsUsed := s₂.slotsUsed } : State).setVm s₂.vm).frames = .java g₀ :: r := hr
  rcases hq' with ⟨hqc, L, hfe, hL⟩ | ⟨q, rfl, E, ce, L, hx, hce, hcv, hcl, hW₂, hsm, hL⟩
  · obtain ⟨⟨v, rfl⟩, hW₂, e2, q2, q3, q4, q5, q6⟩ := id hfe
    have e3 : s₂ = ({ (U.calling g mk a).setFrames s₂.frames with heap := s₂.heap, slotsUsed := s₂.slotsUsed } : State).setVm s₂.vm := by
      have : s₂ = ({ s₂ with vm := (U.calling g mk a).vm } : State).setVm s₂.vm := rfl
      rw [e2] at this
      exact this
    obtain ⟨c₂, i₂, len₂, hc₂, hd₂, hf₂⟩ := hend
    have hW' : U.WarmedH s₂.vm := hW₂
    have hcc : c₂ = c := by
      have h1 : s₂.code? g.method = U.code? g.method := by
        rw [State.code?_eq, State.code?_eq, hW'.alike.method?]
      exact Option.some.inj (hc₂.symm.trans (h1.trans h.code))
    subst hcc
    have hlen : len₂ = len := by rw [hdg] at hd₂; cases hd₂; rfl
    subst hlen
    have hs₂ : s₂ = (({ U with heap := s₂.heap, slotsUsed := s₂.slotsUsed } : State).setVm s₂.vm).setTop { g with pc := g.pc + len₂, stack := v.toList ++ g.stack } := by
      refine e3.trans ?_
      rw [hf₂, State.calling_eq h.top, State.setFrames_setFrames, State.setTop_of_frames _ hr', hr]
      rfl
    have hsame : U.sameButNew ({ U with heap := s₂.heap, slotsUsed := s₂.slotsUsed } : State) L mc ms := by
      refine ⟨?_, q2, q3, q4, q5, q6⟩
      obtain ⟨t, ht, -⟩ := State.frames_cons hr
      show ({ U with heap := s₂.heap, slotsUsed := s₂.slotsUsed } : State) = { U.setFrames U.frames with heap := s₂.heap, slotsUsed := s₂.slotsUsed }
      rw [State.setFrames_self ht]
    subst hg
    refine Or.inl ⟨v, ⟨(({ U with heap := s₂.heap, slotsUsed := s₂.slotsUsed } : State).setVm s₂.vm), Ls ++ L, c0 + mc, s0 + ms⟩,
      ⟨X.admits, X.cas, X.clock, X.frames, X.room, X.hears, X.method, X.code, (X.here.setHeapUsed s₂.heap s₂.slotsUsed).setVm hW'.alike, X.tail, State.WarmedH.trans X.warmed hW', X.limits, X.bytes, X.same.trans (hsame.setVm s.vm)⟩,
      ⟨g, mk, s₂, L, rfl, rfl, hqc, rfl, hL, rfl, rfl⟩, ?_⟩
    show Steps p.tables e below _ ((({ U with heap := s₂.heap, slotsUsed := s₂.slotsUsed } : State).setVm s₂.vm).setTop { g with pc := g.pc + len₂, stack := v.toList ++ g.stack })
    rw [← hs₂]
    exact hsteps
  · obtain ⟨e2, q2, q3, q4, q5, q6⟩ := id hsm
    have e3 : s₂ = ({ (U.calling g mk a).setFrames s₂.frames with heap := s₂.heap, slotsUsed := s₂.slotsUsed } : State).setVm s₂.vm := by
      have : s₂ = ({ s₂ with vm := (U.calling g mk a).vm } : State).setVm s₂.vm := rfl
      rw [e2] at this
      exact this
    have hf₂ : s₂.frames = .throwing q :: .java g :: U.frames.tail := hend
    have hW' : U.WarmedH s₂.vm := hW₂
    have hs₂ : s₂ = ((({ U with heap := s₂.heap, slotsUsed := s₂.slotsUsed } : State).setVm s₂.vm).setTop g).pushFrame (.throwing q) := by
      refine e3.trans ?_
      rw [hf₂, State.calling_eq h.top, State.setFrames_setFrames, State.pushFrame, State.frames_setTop _ hr', State.setTop_of_frames _ hr', State.setFrames_setFrames, hr]
      rfl
    have hsame : U.sameButNew ({ U with heap := s₂.heap, slotsUsed := s₂.slotsUsed } : State) L mc ms := by
      refine ⟨?_, q2, q3, q4, q5, q6⟩
      obtain ⟨t, ht, -⟩ := State.frames_cons hr
      show ({ U with heap := s₂.heap, slotsUsed := s₂.slotsUsed } : State) = { U.setFrames U.frames with heap := s₂.heap, slotsUsed := s₂.slotsUsed }
      rw [State.setFrames_self ht]
    subst hg
    refine Or.inr ⟨q, ⟨(({ U with heap := s₂.heap, slotsUsed := s₂.slotsUsed } : State).setVm s₂.vm), Ls ++ L, c0 + mc, s0 + ms⟩,
      ⟨X.admits, X.cas, X.clock, X.frames, X.room, X.hears, X.method, X.code, (X.here.setHeapUsed s₂.heap s₂.slotsUsed).setVm hW'.alike, X.tail, State.WarmedH.trans X.warmed hW', X.limits, X.bytes, X.same.trans (hsame.setVm s.vm)⟩,
      ⟨g, mk, s₂, L, E, ce, rfl, rfl, hx, hce, hcv, hcl, rfl, hL, rfl, rfl⟩, ?_⟩
    show Steps p.tables e below _ (((({ U with heap := s₂.heap, slotsUsed := s₂.slotsUsed } : State).setVm s₂.vm).setTop g).pushFrame (.throwing q))
    rw [← hs₂]
    exact hsteps
end Payer
section Calls
variable {p : Program} {l : Launch} {e : Env} {R : Room} {s : State} {m : MethodId} {args : Array Value} {below : List Frame} {meth : Method} {c : Code} {T : State} {locs : List Loc} {cells slots : Nat}
theorem vx_callV (X : Stand p l e R s m args below meth c T locs cells slots) (hexec : p.tables.exec = Jvm.exec) {own C : String} {index : Nat} {y : MethodName} {bytes : ByteArray} {maxL : Nat} {ret : Option FieldType}
    (hown : s.vm.findClass own = some m.cls) (hlink : (Cond.methodLink own index y).before args s = true) (hinst : (Cond.instanceMethod y).before args s = true) (hsel : (Cond.selects C y y).before args s = true)
    (hcode : (Cond.code y bytes maxL ret).before args s = true) (hy : y.cls ≠ "java/lang/invoke/MethodHandle" ∧ y.cls ≠ "java/lang/invoke/VarHandle")
    {W9 : Nat} {Pre : Pt → Array Value → Prop} {Post : Pt → Array Value → Option Value → Pt → Prop} {PostX : Pt → Array Value → Addr → Pt → Prop} (hK : vx_Back l R p e below s args y 3 W9 Pre Post PostX)
    {b : Addr} {cellB : Cell} (hcell : T.heap[b]? = some cellB) (hobj : cellB.vm.isStatics = false) (hcls : s.vm.findClass C = some cellB.cls)
    {g : JFrame} (hg : g.method = m) (hsize : g.locals.size = c.maxLocals) {argsL rest : List Value} (hlen : ∀ sig, parseMethodDescriptor y.desc = some sig → argsL.length = sig.parameters.length)
    (hstack : g.stack = argsL.reverse ++ .ref b :: rest) (hW : 2 * g.monitorRoom + (rest.map fun v => v.category).sum ≤ W9) (hdg : decode c.code g.pc = .ok (.invokevirtual index, 3))
    (hpre : ∀ vm₁, s.WarmedH vm₁ → Pre ⟨T.setVm vm₁, locs, cells, slots⟩ (Value.ref b :: argsL).toArray) :
    (∃ (v : Option Value) (vm₁ : Vm) (B : Pt), s.WarmedH vm₁ ∧ Stand p l e R s m args below meth c B.U B.locs B.cells B.slots ∧ Post ⟨T.setVm vm₁, locs, cells, slots⟩ (Value.ref b :: argsL).toArray v B ∧
      ∀ target, Steps p.tables e below (B.U.setTop { g with pc := g.pc + 3, stack := v.toList ++ rest }) target → Steps p.tables e below (T.setTop g) target) ∨
    (∃ (q : Addr) (vm₁ : Vm) (B : Pt), s.WarmedH vm₁ ∧ Stand p l e R s m args below meth c B.U B.locs B.cells B.slots ∧ PostX ⟨T.setVm vm₁, locs, cells, slots⟩ (Value.ref b :: argsL).toArray q B ∧
      Steps p.tables e below (T.setTop g) ((B.U.setTop { g with stack := rest }).pushFrame (.throwing q))) := by
  obtain ⟨mk, methM, hnamed, hmethM, hstM, habM⟩ := Cond.instanceMethod_spec hinst
  obtain ⟨methM', cM, hmethM', -, -, -, -, -, -, hsigM⟩ := Cond.code_spec hnamed hcode
  cases hmethM.symm.trans hmethM'
  obtain ⟨c2, r2, m2, q1, q2, q3, q4, kP, hkP, hkPi⟩ := Cond.selects_spec hsel
  cases hcls.symm.trans q1
  cases (State.methodFound?_of_named hnamed hy).symm.trans q2
  cases hnamed.symm.trans q3
  have hselP : selectMethod e.platform s.vm cellB.cls mk = .method mk := by rw [Launch.admits_selectMethod X.admits]; exact q4
  obtain ⟨vm₁, X₁, hstep₁⟩ := X.invokevirtual hexec hown hlink hnamed hmethM hstM hkP hkPi hy (a := b) (cell := cellB) hcell
    (fun z h => by rw [h] at hobj; cases hobj) hselP hmethM habM hkP hkPi (g := g) hg (argsL := argsL) (rest := rest) (hlen _ hsigM) hstack hdg
  rcases hK m meth c ⟨T.setVm vm₁, locs, cells, slots⟩ { g with stack := rest } (.invokevirtual index) mk (Value.ref b :: argsL).toArray X₁ hg hsize hdg hW (X₁.named hnamed) (hpre vm₁ X₁.warmed) with ⟨v, B, X', hpost, hsteps⟩ | ⟨q, B, X', hpost, hsteps⟩
  · exact Or.inl ⟨v, vm₁, B, X₁.warmed, X', hpost, fun target h => hstep₁ _ fun acts => by rw [doInvoke_state]; exact hsteps.trans h⟩
  · exact Or.inr ⟨q, vm₁, B, X₁.warmed, X', hpost, hstep₁ _ fun acts => by rw [doInvoke_state]; exact hsteps⟩
theorem vx_callS (X : Stand p l e R s m args below meth c T locs cells slots) (hexec : p.tables.exec = Jvm.exec) {own : String} {index : Nat} {y : MethodName} {bytes : ByteArray} {maxL : Nat} {ret : Option FieldType}
    (hown : s.vm.findClass own = some m.cls) (hlink : (Cond.methodLink own index y).before args s = true) (hstat : (Cond.static y).before args s = true) (hinit : (Cond.initialized y.cls).before args s = true)
    (hcode : (Cond.code y bytes maxL ret).before args s = true) (hy : y.cls ≠ "java/lang/invoke/MethodHandle" ∧ y.cls ≠ "java/lang/invoke/VarHandle")
    {W9 : Nat} {Pre : Pt → Array Value → Prop} {Post : Pt → Array Value → Option Value → Pt → Prop} {PostX : Pt → Array Value → Addr → Pt → Prop} (hK : vx_Back l R p e below s args y 3 W9 Pre Post PostX)
    {g : JFrame} (hg : g.method = m) (hsize : g.locals.size = c.maxLocals) {argsL rest : List Value} (hlen : ∀ sig, parseMethodDescriptor y.desc = some sig → argsL.length = sig.parameters.length)
    (hstack : g.stack = argsL.reverse ++ rest) (hW : 2 * g.monitorRoom + (rest.map fun v => v.category).sum ≤ W9) (hdg : decode c.code g.pc = .ok (.invokestatic index, 3))
    (hpre : ∀ vm₁, s.WarmedH vm₁ → Pre ⟨T.setVm vm₁, locs, cells, slots⟩ argsL.toArray) :
    (∃ (v : Option Value) (vm₁ : Vm) (B : Pt), s.WarmedH vm₁ ∧ Stand p l e R s m args below meth c B.U B.locs B.cells B.slots ∧ Post ⟨T.setVm vm₁, locs, cells, slots⟩ argsL.toArray v B ∧
      ∀ target, Steps p.tables e below (B.U.setTop { g with pc := g.pc + 3, stack := v.toList ++ rest }) target → Steps p.tables e below (T.setTop g) target) ∨
    (∃ (q : Addr) (vm₁ : Vm) (B : Pt), s.WarmedH vm₁ ∧ Stand p l e R s m args below meth c B.U B.locs B.cells B.slots ∧ PostX ⟨T.setVm vm₁, locs, cells, slots⟩ argsL.toArray q B ∧
      Steps p.tables e below (T.setTop g) ((B.U.setTop { g with stack := rest }).pushFrame (.throwing q))) := by
  obtain ⟨mk, hnamed⟩ := Cond.code_named hcode
  obtain ⟨methM, cM, hmethM, -, -, -, -, -, -, hsigM⟩ := Cond.code_spec hnamed hcode
  have hstatic : methM.isStatic = true := Cond.static_spec hnamed hmethM hstat
  obtain ⟨kP, hkP, -⟩ := className_of_methodNamed hnamed
  have hinitP : kP.init = .initialized := Cond.initialized_spec (findClass_of_methodNamed hnamed) hkP hinit
  obtain ⟨vm₁, X₁, hstep₁⟩ := X.invokestatic hexec hown hlink hnamed hmethM hstatic hkP hinitP hy (g := g) hg (argsL := argsL) (rest := rest) (hlen _ hsigM) hstack hdg
  rcases hK m meth c ⟨T.setVm vm₁, locs, cells, slots⟩ { g with stack := rest } (.invokestatic index) mk argsL.toArray X₁ hg hsize hdg hW (X₁.named hnamed) (hpre vm₁ X₁.warmed) with ⟨v, B, X', hpost, hsteps⟩ | ⟨q, B, X', hpost, hsteps⟩
  · exact Or.inl ⟨v, vm₁, B, X₁.warmed, X', hpost, fun target h => hstep₁ _ fun acts => by rw [doInvoke_state]; exact hsteps.trans h⟩
  · exact Or.inr ⟨q, vm₁, B, X₁.warmed, X', hpost, hstep₁ _ fun acts => by rw [doInvoke_state]; exact hsteps⟩
end Calls
theorem vx_cls {s : State} {T : State} {vm₁ : Vm} {E : String} {k : ClassId} (hW : s.WarmedH vm₁) (h : (T.setVm vm₁).vm.findClass E = some k) : s.vm.findClass E = some k := by
  have h1 : vm₁.findClass E = some k := h
  rw [hW.alike.findClass] at h1
  exact h1
/-- the method's frame g, with q thrown over it -/
def vx_W (p : Program) (l : Launch) (e : Env) (R : Room) (s : State) (m : MethodId) (args : Array Value) (below : List Frame) (meth : Method) (c : Code) (H : Heap) (locs : List Loc) (cells slots : Nat) (Q : State → Prop) (g : JFrame) (q : Addr) : Prop :=
  ∀ T : State, T.heap = H → Stand p l e R s m args below meth c T locs cells slots → ∃ t, Steps p.tables e below ((T.setTop g).pushFrame (.throwing q)) t ∧ Q t
def vx_Run (p : Program) (l : Launch) (e : Env) (R : Room) (s : State) (m : MethodId) (args : Array Value) (below : List Frame) (meth : Method) (c : Code) (H : Heap) (locs : List Loc) (cells slots mc ms : Nat) (g : JFrame) (rest : List Value) (Qa : State → Outcome → State → Prop) (XC : String → State → State → Prop) (free : Addr → Prop) : Prop :=
  ∀ T : State, T.heap = H → Stand p l e R s m args below meth c T locs cells slots →
    (∃ (v : Option Value) (st₀ t T' : State) (L : List Loc), st₀.heap = H ∧ Stand p l e R s m args below meth c T' (locs ++ L) (cells + mc) (slots + ms) ∧ (∀ q ∈ L, free q.base) ∧ T'.heap = t.heap ∧ T'.vm = t.vm ∧ Qa st₀ (.returned v) t ∧
      Goes p e below T g T' { g with pc := g.pc + 3, stack := v.toList ++ rest }) ∨
    (∃ (q : Addr) (st₀ t T' : State) (L : List Loc) (E : String) (ce : Cell), st₀.heap = H ∧ Stand p l e R s m args below meth c T' (locs ++ L) (cells + mc) (slots + ms) ∧ (∀ z ∈ L, free z.base) ∧ T'.heap = t.heap ∧ T'.vm = t.vm ∧ XC E st₀ t ∧ t.heap[q]? = some ce ∧ ce.vm = .none ∧ s.vm.findClass E = some ce.cls ∧
      Steps p.tables e below (T.setTop g) ((T'.setTop { g with stack := rest }).pushFrame (.throwing q)))
def vx_X {S : Type} (px : S → Prop) (B : String → S → State → Prop) (A : Nat → Prop) : String → State → State → Prop := fun E st t => ∃ u : S, px u ∧ B E u t ∧ va_F A st t
section Runs
variable {p : Program} {l : Launch} {e : Env} {R : Room} {s : State} {m : MethodId} {args : Array Value} {below : List Frame} {meth : Method} {c : Code} {H : Heap} {locs : List Loc} {cells slots : Nat}
variable {y : MethodName} {bytes cc : ByteArray} {maxL nL mc ms n index : Nat} {ret : Option FieldType} {ws : List Cond} {rm : Room} {Pc : Array Value → State → Prop} {Qc : Array Value → State → Outcome → State → Prop} {XC : String → State → State → Prop} {free : Addr → Prop} {Ts : List Cond} {own C : String} {b : Addr} {As rest : List Value} {g : JFrame}
theorem vx_callBack (cb : CallB R s args own index y bytes maxL ret ws rm mc ms n) (hM : vx_Met l y ws rm Pc Qc XC mc ms free) (hbl : FrameBlind Pc) : vx_Back l R p e below s args y 3 8 (PreOf R mc ms Pc) (PostOf Qc mc ms free) (vx_Post XC mc ms free) := by
  obtain ⟨hrc, hrs, hfr, hlo, hws, hcw, -, hini, -⟩ := cb
  exact vx_back (bytes := bytes) (maxL := maxL) (ret := ret) hM hbl hrc hrs hfr hlo hws hcw (fun a' U hW => word_at hW (Or.inl (by first | rfl | simp [Cond.onTables, Cond.keeps, Cond.steady])) hini)
theorem vx_runV (S : CallFix p m c cc nL s args Ts own) (hM : vx_Met l y ws rm Pc Qc XC mc ms free) (cw : CallW R s args own C index y bytes maxL ret ws rm mc ms n) (hp : PreV s H C b Pc As)
    (hg : g.method = m) (hn : As.length = n) (hsize : g.locals.size = nL) (hstack : g.stack = As.reverse ++ .ref b :: rest) (hW : 2 * g.monitorRoom + (rest.map fun v => v.category).sum ≤ 8) (hdg : decode cc g.pc = .ok (.invokevirtual index, 3)) (hf : cells + mc ≤ R.cells ∧ slots + ms ≤ R.slots) :
    vx_Run p l e R s m args below meth c H locs cells slots mc ms g rest (Qc (Value.ref b :: As).toArray) XC free := by
  have hK : vx_Back l R p e below s args y 3 8 (PreOf R mc ms Pc) (PostOf Qc mc ms free) (vx_Post XC mc ms free) := vx_callBack cw.1 hM hp.1
  obtain ⟨⟨-, -, -, -, -, -, hcode, -, hy, hlen, hl⟩, hin, hse⟩ := cw
  obtain ⟨hx, hb, hml, ho, -⟩ := S
  obtain ⟨-, ⟨cellB, hcB, hoB, hclB⟩, hPc⟩ := hp
  intro T hT X
  rcases vx_callV X hx (C := C) (bytes := bytes) (maxL := maxL) (ret := ret) ho hl hin hse hcode hy hK (by rw [hT]; exact hcB) hoB hclB hg (hsize.trans hml.symm) (argsL := As) (rest := rest) (fun sig h => hn.trans (hlen sig h)) hstack hW (by rw [hb]; exact hdg)
    (fun vm₁ hW₁ => ⟨hf.1, hf.2, hPc (T.setVm vm₁) hT hW₁⟩) with ⟨v, vm₁, ⟨U', l2, c2, s2⟩, hW₁, X', ⟨g', mk, t, L, e1, e2, hq, h1, hL, h2, h3⟩, st⟩ | ⟨q, vm₁, ⟨U', l2, c2, s2⟩, hW₁, X', ⟨g', mk, t, L, E, ce, e1, e2, hq, hce, hcv, hcl, h1, hL, h2, h3⟩, st⟩
  · dsimp only [Pt.U, Pt.locs, Pt.cells, Pt.slots] at X' e1 e2 h1 h2 h3 st
    subst h1; subst h2; subst h3
    exact Or.inl ⟨v, (T.setVm vm₁).calling g' mk (Value.ref b :: As).toArray, t, U', L, hT, X', hL, e1, e2, hq, st⟩
  · dsimp only [Pt.U, Pt.locs, Pt.cells, Pt.slots] at X' e1 e2 h1 h2 h3 st hcl
    subst h1; subst h2; subst h3
    exact Or.inr ⟨q, (T.setVm vm₁).calling g' mk (Value.ref b :: As).toArray, t, U', L, E, ce, hT, X', hL, e1, e2, hq, hce, hcv, vx_cls hW₁ hcl, st⟩
theorem vx_runS (S : CallFix p m c cc nL s args Ts own) (hM : vx_Met l y ws rm Pc Qc XC mc ms free) (cw : CallB R s args own index y bytes maxL ret ws rm mc ms n ∧ (Cond.static y).before args s = true) (hp : PreS s H Pc As)
    (hg : g.method = m) (hn : As.length = n) (hsize : g.locals.size = nL) (hstack : g.stack = As.reverse ++ rest) (hW : 2 * g.monitorRoom + (rest.map fun v => v.category).sum ≤ 8) (hdg : decode cc g.pc = .ok (.invokestatic index, 3)) (hf : cells + mc ≤ R.cells ∧ slots + ms ≤ R.slots) :
    vx_Run p l e R s m args below meth c H locs cells slots mc ms g rest (Qc As.toArray) XC free := by
  have hK : vx_Back l R p e below s args y 3 8 (PreOf R mc ms Pc) (PostOf Qc mc ms free) (vx_Post XC mc ms free) := vx_callBack cw.1 hM hp.1
  obtain ⟨⟨-, -, -, -, -, -, hcode, hini, hy, hlen, hl⟩, hstt⟩ := cw
  obtain ⟨hx, hb, hml, ho, -⟩ := S
  intro T hT X
  rcases vx_callS X hx (bytes := bytes) (maxL := maxL) (ret := ret) ho hl hstt hini hcode hy hK hg (hsize.trans hml.symm) (argsL := As) (rest := rest) (fun sig h => hn.trans (hlen sig h)) hstack hW (by rw [hb]; exact hdg)
    (fun vm₁ hW₁ => ⟨hf.1, hf.2, hp.2 (T.setVm vm₁) hT hW₁⟩) with ⟨v, vm₁, ⟨U', l2, c2, s2⟩, hW₁, X', ⟨g', mk, t, L, e1, e2, hq, h1, hL, h2, h3⟩, st⟩ | ⟨q, vm₁, ⟨U', l2, c2, s2⟩, hW₁, X', ⟨g', mk, t, L, E, ce, e1, e2, hq, hce, hcv, hcl, h1, hL, h2, h3⟩, st⟩
  · dsimp only [Pt.U, Pt.locs, Pt.cells, Pt.slots] at X' e1 e2 h1 h2 h3 st
    subst h1; subst h2; subst h3
    exact Or.inl ⟨v, (T.setVm vm₁).calling g' mk As.toArray, t, U', L, hT, X', hL, e1, e2, hq, st⟩
  · dsimp only [Pt.U, Pt.locs, Pt.cells, Pt.slots] at X' e1 e2 h1 h2 h3 st hcl
    subst h1; subst h2; subst h3
    exact Or.inr ⟨q, (T.setVm vm₁).calling g' mk As.toArray, t, U', L, E, ce, hT, X', hL, e1, e2, hq, hce, hcv, vx_cls hW₁ hcl, st⟩
end Runs
section Rows
variable {p : Program} {l : Launch} {e : Env} {R : Room} {s : State} {m : MethodId} {args : Array Value} {below : List Frame} {meth : Method} {c : Code} {H : Heap} {locs : List Loc} {cells slots : Nat} {Q : State → Prop}
variable {mc ms : Nat} {free : Addr → Prop} {A0 A1 : Nat → Prop} {H0 : Heap} {a : Array Value} {pc : Nat} {ls : Array Slot} {st0 rest : List Value}
theorem vx_keep {st₀ t T' : State} {L : List Loc} (h0 : st₀.heap = H) (e1 : T'.heap = t.heap) (hS : va_S A0 H0 H locs) (hA : ∀ q, q < H.size → A1 q → A0 q) (hf : ∀ q, free q → A0 q) (hL : ∀ q ∈ L, free q.base) (hF : va_F A1 st₀ t) :
    H.size ≤ T'.heap.size ∧ (∀ q : Nat, q < H.size → ¬ A1 q → T'.heap[q]? = H[q]?) ∧ va_S A0 H0 T'.heap (locs ++ L) := by
  obtain ⟨hz, hk⟩ := hF
  rw [h0] at hz hk
  exact ⟨by rw [e1]; exact hz, fun q h1 h2 => by rw [e1]; exact hk q h1 h2,
    ⟨Nat.le_trans hS.1 (by rw [e1]; exact hz), fun q h1 h2 => by rw [e1, hk q (Nat.lt_of_lt_of_le h1 hS.1) (fun z => h2 (hA q (Nat.lt_of_lt_of_le h1 hS.1) z))]; exact hS.2.1 q h1 h2, fun q hq => by
      rcases List.mem_append.mp hq with h | h
      · exact hS.2.2 q h
      · exact hf _ (hL q h)⟩⟩
theorem vx_calli {S SX : Type} {post : Int32 → S → Prop} {px : SX → Prop} {B : S → State → Prop} {BX : String → SX → State → Prop} {AX : Nat → Prop} (hr : vx_Run p l e R s m args below meth c H locs cells slots mc ms (F0 m pc ls st0) rest (va_Qi post B A1 a) (vx_X px BX AX) free) (hS : va_S A0 H0 H locs) (hA : ∀ q, q < H.size → A1 q → A0 q) (hf : ∀ q, free q → A0 q) (hAX : ∀ q, q < H.size → AX q → A0 q)
    (kx : ∀ (E : String) (ce : Cell) (q9 : Addr) (u : SX) (t : State) (H1 : Heap) (locs1 : List Loc), t.heap = H1 → s.vm.Alike t.vm → px u → BX E u t → H.size ≤ H1.size → (∀ q : Nat, q < H.size → ¬ AX q → H1[q]? = H[q]?) → va_S A0 H0 H1 locs1 → H1[q9]? = some ce → ce.vm = .none → s.vm.findClass E = some ce.cls → vx_W p l e R s m args below meth c H1 locs1 (cells + mc) (slots + ms) Q (F0 m pc ls rest) q9)
    (kk : ∀ (r : Int32) (u : S) (t : State) (H1 : Heap) (locs1 : List Loc), t.heap = H1 → s.vm.Alike t.vm → post r u → B u t → H.size ≤ H1.size → (∀ q : Nat, q < H.size → ¬ A1 q → H1[q]? = H[q]?) → va_S A0 H0 H1 locs1 → W p l e R s m args below meth c H1 locs1 (cells + mc) (slots + ms) Q (F0 m (pc + 3) ls (.int r :: rest))) : W p l e R s m args below meth c H locs cells slots Q (F0 m pc ls st0) := by
  intro T hT X
  rcases hr T hT X with ⟨v, st₀, t, T', L, h0, X', hL, e1, e2, ⟨⟨r, u, hv, hp, hb⟩, hF⟩, st⟩ | ⟨q, st₀, t, T', L, E, ce, h0, X', hL, e1, e2, ⟨u, hp, hb, hF⟩, hce, hcv, hcl, st⟩
  · cases hv
    obtain ⟨k1, k2, k3⟩ := vx_keep h0 e1 hS hA hf hL hF
    obtain ⟨t2, a1, b1⟩ := kk r u t T'.heap (locs ++ L) e1.symm (by rw [← e2]; exact X'.warmed.alike) hp hb k1 k2 k3 T' rfl X'
    exact ⟨t2, st t2 a1, b1⟩
  · obtain ⟨k1, k2, k3⟩ := vx_keep h0 e1 hS hAX hf hL hF
    obtain ⟨t2, a1, b1⟩ := kx E ce q u t T'.heap (locs ++ L) e1.symm (by rw [← e2]; exact X'.warmed.alike) hp hb k1 k2 k3 (by rw [e1]; exact hce) hcv hcl T' rfl X'
    exact ⟨t2, st.trans a1, b1⟩
theorem vx_calll {S SX : Type} {post : Int64 → S → Prop} {px : SX → Prop} {B : S → State → Prop} {BX : String → SX → State → Prop} {AX : Nat → Prop} (hr : vx_Run p l e R s m args below meth c H locs cells slots mc ms (F0 m pc ls st0) rest (va_Ql post B A1 a) (vx_X px BX AX) free) (hS : va_S A0 H0 H locs) (hA : ∀ q, q < H.size → A1 q → A0 q) (hf : ∀ q, free q → A0 q) (hAX : ∀ q, q < H.size → AX q → A0 q)
    (kx : ∀ (E : String) (ce : Cell) (q9 : Addr) (u : SX) (t : State) (H1 : Heap) (locs1 : List Loc), t.heap = H1 → s.vm.Alike t.vm → px u → BX E u t → H.size ≤ H1.size → (∀ q : Nat, q < H.size → ¬ AX q → H1[q]? = H[q]?) → va_S A0 H0 H1 locs1 → H1[q9]? = some ce → ce.vm = .none → s.vm.findClass E = some ce.cls → vx_W p l e R s m args below meth c H1 locs1 (cells + mc) (slots + ms) Q (F0 m pc ls rest) q9)
    (kk : ∀ (r : Int64) (u : S) (t : State) (H1 : Heap) (locs1 : List Loc), t.heap = H1 → s.vm.Alike t.vm → post r u → B u t → H.size ≤ H1.size → (∀ q : Nat, q < H.size → ¬ A1 q → H1[q]? = H[q]?) → va_S A0 H0 H1 locs1 → W p l e R s m args below meth c H1 locs1 (cells + mc) (slots + ms) Q (F0 m (pc + 3) ls (.long r :: rest))) : W p l e R s m args below meth c H locs cells slots Q (F0 m pc ls st0) := by
  intro T hT X
  rcases hr T hT X with ⟨v, st₀, t, T', L, h0, X', hL, e1, e2, ⟨⟨r, u, hv, hp, hb⟩, hF⟩, st⟩ | ⟨q, st₀, t, T', L, E, ce, h0, X', hL, e1, e2, ⟨u, hp, hb, hF⟩, hce, hcv, hcl, st⟩
  · cases hv
    obtain ⟨k1, k2, k3⟩ := vx_keep h0 e1 hS hA hf hL hF
    obtain ⟨t2, a1, b1⟩ := kk r u t T'.heap (locs ++ L) e1.symm (by rw [← e2]; exact X'.warmed.alike) hp hb k1 k2 k3 T' rfl X'
    exact ⟨t2, st t2 a1, b1⟩
  · obtain ⟨k1, k2, k3⟩ := vx_keep h0 e1 hS hAX hf hL hF
    obtain ⟨t2, a1, b1⟩ := kx E ce q u t T'.heap (locs ++ L) e1.symm (by rw [← e2]; exact X'.warmed.alike) hp hb k1 k2 k3 (by rw [e1]; exact hce) hcv hcl T' rfl X'
    exact ⟨t2, st.trans a1, b1⟩
theorem vx_callf {S SX : Type} {post : UInt32 → S → Prop} {px : SX → Prop} {B : S → State → Prop} {BX : String → SX → State → Prop} {AX : Nat → Prop} (hr : vx_Run p l e R s m args below meth c H locs cells slots mc ms (F0 m pc ls st0) rest (va_Qf post B A1 a) (vx_X px BX AX) free) (hS : va_S A0 H0 H locs) (hA : ∀ q, q < H.size → A1 q → A0 q) (hf : ∀ q, free q → A0 q) (hAX : ∀ q, q < H.size → AX q → A0 q)
    (kx : ∀ (E : String) (ce : Cell) (q9 : Addr) (u : SX) (t : State) (H1 : Heap) (locs1 : List Loc), t.heap = H1 → s.vm.Alike t.vm → px u → BX E u t → H.size ≤ H1.size → (∀ q : Nat, q < H.size → ¬ AX q → H1[q]? = H[q]?) → va_S A0 H0 H1 locs1 → H1[q9]? = some ce → ce.vm = .none → s.vm.findClass E = some ce.cls → vx_W p l e R s m args below meth c H1 locs1 (cells + mc) (slots + ms) Q (F0 m pc ls rest) q9)
    (kk : ∀ (r : UInt32) (u : S) (t : State) (H1 : Heap) (locs1 : List Loc), t.heap = H1 → s.vm.Alike t.vm → post r u → B u t → H.size ≤ H1.size → (∀ q : Nat, q < H.size → ¬ A1 q → H1[q]? = H[q]?) → va_S A0 H0 H1 locs1 → W p l e R s m args below meth c H1 locs1 (cells + mc) (slots + ms) Q (F0 m (pc + 3) ls (.float r :: rest))) : W p l e R s m args below meth c H locs cells slots Q (F0 m pc ls st0) := by
  intro T hT X
  rcases hr T hT X with ⟨v, st₀, t, T', L, h0, X', hL, e1, e2, ⟨⟨r, u, hv, hp, hb⟩, hF⟩, st⟩ | ⟨q, st₀, t, T', L, E, ce, h0, X', hL, e1, e2, ⟨u, hp, hb, hF⟩, hce, hcv, hcl, st⟩
  · cases hv
    obtain ⟨k1, k2, k3⟩ := vx_keep h0 e1 hS hA hf hL hF
    obtain ⟨t2, a1, b1⟩ := kk r u t T'.heap (locs ++ L) e1.symm (by rw [← e2]; exact X'.warmed.alike) hp hb k1 k2 k3 T' rfl X'
    exact ⟨t2, st t2 a1, b1⟩
  · obtain ⟨k1, k2, k3⟩ := vx_keep h0 e1 hS hAX hf hL hF
    obtain ⟨t2, a1, b1⟩ := kx E ce q u t T'.heap (locs ++ L) e1.symm (by rw [← e2]; exact X'.warmed.alike) hp hb k1 k2 k3 (by rw [e1]; exact hce) hcv hcl T' rfl X'
    exact ⟨t2, st.trans a1, b1⟩
theorem vx_calld {S SX : Type} {post : UInt64 → S → Prop} {px : SX → Prop} {B : S → State → Prop} {BX : String → SX → State → Prop} {AX : Nat → Prop} (hr : vx_Run p l e R s m args below meth c H locs cells slots mc ms (F0 m pc ls st0) rest (va_Qd post B A1 a) (vx_X px BX AX) free) (hS : va_S A0 H0 H locs) (hA : ∀ q, q < H.size → A1 q → A0 q) (hf : ∀ q, free q → A0 q) (hAX : ∀ q, q < H.size → AX q → A0 q)
    (kx : ∀ (E : String) (ce : Cell) (q9 : Addr) (u : SX) (t : State) (H1 : Heap) (locs1 : List Loc), t.heap = H1 → s.vm.Alike t.vm → px u → BX E u t → H.size ≤ H1.size → (∀ q : Nat, q < H.size → ¬ AX q → H1[q]? = H[q]?) → va_S A0 H0 H1 locs1 → H1[q9]? = some ce → ce.vm = .none → s.vm.findClass E = some ce.cls → vx_W p l e R s m args below meth c H1 locs1 (cells + mc) (slots + ms) Q (F0 m pc ls rest) q9)
    (kk : ∀ (r : UInt64) (u : S) (t : State) (H1 : Heap) (locs1 : List Loc), t.heap = H1 → s.vm.Alike t.vm → post r u → B u t → H.size ≤ H1.size → (∀ q : Nat, q < H.size → ¬ A1 q → H1[q]? = H[q]?) → va_S A0 H0 H1 locs1 → W p l e R s m args below meth c H1 locs1 (cells + mc) (slots + ms) Q (F0 m (pc + 3) ls (.double r :: rest))) : W p l e R s m args below meth c H locs cells slots Q (F0 m pc ls st0) := by
  intro T hT X
  rcases hr T hT X with ⟨v, st₀, t, T', L, h0, X', hL, e1, e2, ⟨⟨r, u, hv, hp, hb⟩, hF⟩, st⟩ | ⟨q, st₀, t, T', L, E, ce, h0, X', hL, e1, e2, ⟨u, hp, hb, hF⟩, hce, hcv, hcl, st⟩
  · cases hv
    obtain ⟨k1, k2, k3⟩ := vx_keep h0 e1 hS hA hf hL hF
    obtain ⟨t2, a1, b1⟩ := kk r u t T'.heap (locs ++ L) e1.symm (by rw [← e2]; exact X'.warmed.alike) hp hb k1 k2 k3 T' rfl X'
    exact ⟨t2, st t2 a1, b1⟩
  · obtain ⟨k1, k2, k3⟩ := vx_keep h0 e1 hS hAX hf hL hF
    obtain ⟨t2, a1, b1⟩ := kx E ce q u t T'.heap (locs ++ L) e1.symm (by rw [← e2]; exact X'.warmed.alike) hp hb k1 k2 k3 (by rw [e1]; exact hce) hcv hcl T' rfl X'
    exact ⟨t2, st.trans a1, b1⟩
theorem vx_callv {S SX : Type} {post : S → Prop} {px : SX → Prop} {B : S → State → Prop} {BX : String → SX → State → Prop} {AX : Nat → Prop} (hr : vx_Run p l e R s m args below meth c H locs cells slots mc ms (F0 m pc ls st0) rest (va_Qv post B A1 a) (vx_X px BX AX) free) (hS : va_S A0 H0 H locs) (hA : ∀ q, q < H.size → A1 q → A0 q) (hf : ∀ q, free q → A0 q) (hAX : ∀ q, q < H.size → AX q → A0 q)
    (kx : ∀ (E : String) (ce : Cell) (q9 : Addr) (u : SX) (t : State) (H1 : Heap) (locs1 : List Loc), t.heap = H1 → s.vm.Alike t.vm → px u → BX E u t → H.size ≤ H1.size → (∀ q : Nat, q < H.size → ¬ AX q → H1[q]? = H[q]?) → va_S A0 H0 H1 locs1 → H1[q9]? = some ce → ce.vm = .none → s.vm.findClass E = some ce.cls → vx_W p l e R s m args below meth c H1 locs1 (cells + mc) (slots + ms) Q (F0 m pc ls rest) q9)
    (kk : ∀ (u : S) (t : State) (H1 : Heap) (locs1 : List Loc), t.heap = H1 → s.vm.Alike t.vm → post u → B u t → H.size ≤ H1.size → (∀ q : Nat, q < H.size → ¬ A1 q → H1[q]? = H[q]?) → va_S A0 H0 H1 locs1 → W p l e R s m args below meth c H1 locs1 (cells + mc) (slots + ms) Q (F0 m (pc + 3) ls (rest))) : W p l e R s m args below meth c H locs cells slots Q (F0 m pc ls st0) := by
  intro T hT X
  rcases hr T hT X with ⟨v, st₀, t, T', L, h0, X', hL, e1, e2, ⟨⟨u, hv, hp, hb⟩, hF⟩, st⟩ | ⟨q, st₀, t, T', L, E, ce, h0, X', hL, e1, e2, ⟨u, hp, hb, hF⟩, hce, hcv, hcl, st⟩
  · cases hv
    obtain ⟨k1, k2, k3⟩ := vx_keep h0 e1 hS hA hf hL hF
    obtain ⟨t2, a1, b1⟩ := kk u t T'.heap (locs ++ L) e1.symm (by rw [← e2]; exact X'.warmed.alike) hp hb k1 k2 k3 T' rfl X'
    exact ⟨t2, st t2 a1, b1⟩
  · obtain ⟨k1, k2, k3⟩ := vx_keep h0 e1 hS hAX hf hL hF
    obtain ⟨t2, a1, b1⟩ := kx E ce q u t T'.heap (locs ++ L) e1.symm (by rw [← e2]; exact X'.warmed.alike) hp hb k1 k2 k3 (by rw [e1]; exact hce) hcv hcl T' rfl X'
    exact ⟨t2, st.trans a1, b1⟩
/-- caught by the row x of this method's table; the rows ahead don't take it -/
theorem vx_catch {own name : String} {E : String} {ce : Cell} {q : Addr} (hown : s.vm.findClass own = some m.cls) (pre : List ExceptionTableEntry) (x : ExceptionTableEntry) (suf : List ExceptionTableEntry) (hsplit : c.exceptionTable.toList = pre ++ x :: suf)
    (hpass : ∀ z ∈ pre, covers z pc = false ∨ (z.catchType ≠ 0 ∧ ∃ nm : String, (Cond.classLink own z.catchType nm).before args s = true ∧ va_Nc E nm s)) (hx : covers x pc = true) (h0 : x.catchType ≠ 0)
    (hlink : (Cond.classLink own x.catchType name).before args s = true) (hcast : (Cond.castable E name).before args s = true) (hcell : H[q]? = some ce) (hv : ce.vm = .none) (hcl : s.vm.findClass E = some ce.cls)
    (kk : W p l e R s m args below meth c H locs cells slots Q (F0 m x.handlerPc ls [.ref q])) : vx_W p l e R s m args below meth c H locs cells slots Q (F0 m pc ls rest) q := by
  intro T hT X
  have hpl : e.platform.magicAccessors = ({} : Platform).magicAccessors := by rw [X.admits.platform]
  obtain ⟨c3, c4, hc3, hc4, hasg⟩ := Cond.castable_spec hcast
  cases Option.some.inj (hc3.symm.trans hcl)
  obtain ⟨c5, hc5, hcl5⟩ := Cond.classLink_spec hown hlink e.platform hpl
  cases Option.some.inj (hc4.symm.trans hc5)
  obtain ⟨vm', X', st⟩ := X.thenCaughtThrough q (g := F0 m pc ls rest) rfl (Steps.refl _) (by rw [hT]; exact hcell) (by rw [hv]; rfl) (by obtain ⟨k9, h9, -⟩ := Vm.findClass_spec hcl; exact ⟨k9, h9⟩) pre x suf hsplit
    (fun z hz => by
      rcases hpass z hz with h | ⟨hz0, nm, hl1, hn1⟩
      · exact Or.inl h
      · obtain ⟨c6, hc6, hcl6⟩ := Cond.classLink_spec hown hl1 e.platform hpl
        obtain ⟨a8, b8, h1, h2, h3⟩ := hn1
        cases Option.some.inj (h1.symm.trans hcl)
        cases Option.some.inj (h2.symm.trans hc6)
        exact Or.inr ⟨hz0, _, hcl6, h3⟩) hx (Or.inr ⟨h0, c4, hcl5, hasg⟩)
  obtain ⟨t, a1, b1⟩ := kk (T.setVm vm') hT X'
  exact ⟨t, st.trans a1, b1⟩
end Rows
section Ends
variable {p : Program} {l : Launch} {e : Env} {R : Room} {s : State} {m : MethodId} {args : Array Value} {below : List Frame} {meth : Method} {c : Code} {H : Heap} {locs : List Loc} {cells slots : Nat} {Q : State → Prop}
variable {mc ms : Nat} {free : Addr → Prop} {A0 A1 : Nat → Prop} {H0 : Heap} {a : Array Value} {ls : Array Slot} {st0 rest : List Value}
variable {Qc : Array Value → State → Outcome → State → Prop} {XC : String → State → State → Prop}
/-- what a body that may throw owes at its end -/
def vx_MQ (below : List Frame) (Qc : Array Value → State → Outcome → State → Prop) (XC : String → State → State → Prop) (a : Array Value) (s : State) (mc ms : Nat) (free : Addr → Prop) : State → Prop := fun t =>
  ∃ o, t.status = .running ∧ Ended t below o ∧ vx_Q Qc XC mc ms free a s o t
theorem vx_ret {g : JFrame} {mc ms : Nat} (k : W p l e R s m args below meth c H locs cells slots (MQ below Qc args s mc ms free) g) : W p l e R s m args below meth c H locs cells slots (vx_MQ below Qc XC args s mc ms free) g := by
  intro T hT X
  obtain ⟨t, a1, o, b1, b2, b3, b4⟩ := k T hT X
  exact ⟨t, a1, o, b1, b2, Or.inl ⟨b3, b4⟩⟩
/-- not caught here: it goes on to the caller -/
theorem vx_widen {g : JFrame} {q : Addr} {k n : Nat} (h1 : cells ≤ k) (h2 : slots ≤ n) (kk : vx_W p l e R s m args below meth c H locs k n Q g q) : vx_W p l e R s m args below meth c H locs cells slots Q g q := fun T hT X => kk T hT (stand_widen X h1 h2)
theorem vx_out {pc : Nat} {E : String} {ce : Cell} {q : Addr} {mc ms : Nat} (hout : ∀ x ∈ c.exceptionTable.toList, covers x pc = false) (hlocks : meth.locks = false) (hcell : H[q]? = some ce) (hv : ce.vm = .none) (hcl : s.vm.findClass E = some ce.cls)
    (hx : ∀ t : State, t.heap = H → s.vm.Alike t.vm → XC E s t) (hf : ∀ z ∈ locs, free z.base) (hc : cells ≤ mc) (hs : slots ≤ ms) :
    vx_W p l e R s m args below meth c H locs cells slots (vx_MQ below Qc XC args s mc ms free) (F0 m pc ls rest) q := by
  intro T hT X
  obtain ⟨st1, hrun, hend, hW, hsm⟩ := X.leaveThrown q (g := F0 m pc ls rest) rfl rfl rfl hout hlocks
  have hcell9 : (T.setFrames (.throwing q :: below)).heap[q]? = some ce := by
    show T.heap[q]? = some ce
    rw [hT]; exact hcell
  exact ⟨_, st1, .threw q, hrun, hend, Or.inr ⟨q, rfl, E, ce, locs, hx _ hT hW.alike, hcell9, hv, hcl, hW, hsm.mono hc hs, hf⟩⟩
theorem vx_frame {U : State} {k n : Nat} (h : s.sameButNew ({ U with vm := s.vm } : State) locs k n) : s.heap.size ≤ U.heap.size ∧ ∀ q : Nat, q < s.heap.size → (∀ z ∈ locs, z.base ≠ q) → U.heap[q]? = s.heap[q]? := by
  obtain ⟨-, h2, -, -, -, h6⟩ := h
  refine ⟨h2, fun q hq hz => ?_⟩
  obtain ⟨c9, e1, e2, e3, e4⟩ := h6 q _ (Array.getElem?_eq_getElem hq)
  have hs : c9.slots = (s.heap[q]).slots := Array.ext_getElem? fun i => e4 i fun hm => hz _ hm rfl
  have h9 : c9 = s.heap[q] := by
    rw [hs] at e2
    exact e2
  have e5 : U.heap[q]? = some c9 := e1
  rw [e5, h9, Array.getElem?_eq_getElem hq]
/-- the words of a throw but the four that speak of the heap -/
def vx_no (w : Cond) : Bool := decide (w ≠ .isRef (.static Bundle.tN "UNASSIGNED_STACK" Bundle.steD)) && decide (w ≠ .isRef (.static Bundle.tN "SUPPRESSED_SENTINEL" Bundle.listD)) && decide (w ≠ .laysStatic Bundle.tN "UNASSIGNED_STACK" Bundle.steD) && decide (w ≠ .laysStatic Bundle.tN "SUPPRESSED_SENTINEL" Bundle.listD)
def vx_at0 (own : String) (ic : Nat) (X : String) (names : List String) : List Cond := (Bundle.ownAtoms0 own ic X names).filter vx_no
def vx_atS (own : String) (ic : Nat) (X : String) (names : List String) : List Cond := (Bundle.ownAtoms own ic X names).filter vx_no
/-- a word that the tables alone decide, or a good one -/
def vx_ot (w : Cond) : Bool := w.onTables || goodWord w
theorem vx_ot_at {args a' : Array Value} {s U : State} {w : Cond} (hW : s.WarmedH U.vm) (hvm : s.vm = U.vm) (hg : vx_ot w = true) (h : w.before args s = true) : w.before a' U = true := by
  simp only [vx_ot, Bool.or_eq_true] at hg
  rcases hg with hg | hg
  · exact va_tabs hg hvm h
  · exact word_at hW (good_of_word hg) h
/-- a list's words: the good ones out of the method's own list, the others by premises of their own -/
theorem vx_hat {args : Array Value} {s : State} {L B : List Cond} (h1 : ∀ w ∈ L.filter goodWord, w.before args s = true) (h2 : ∀ w ∈ L.filter (fun w => !goodWord w), w ∈ B) (h3 : ∀ w ∈ B, w.before args s = true) : ∀ w ∈ L, w.before args s = true := by
  intro w hw
  by_cases g : goodWord w = true
  · exact h1 w (List.mem_filter.mpr ⟨hw, g⟩)
  · refine h3 w (h2 w (List.mem_filter.mpr ⟨hw, ?_⟩))
    show (!goodWord w) = true
    cases hgw : goodWord w
    · rfl
    · exact absurd hgw g
theorem vx_c {args : Array Value} {s : State} {w : Cond} {B : List Cond} (h : w.before args s = true) (t : ∀ w ∈ B, w.before args s = true) : ∀ w' ∈ w :: B, w'.before args s = true := fun w' h' => (List.mem_cons.mp h').elim (fun e => by rw [e]; exact h) (t w')
theorem vx_n {args : Array Value} {s : State} : ∀ w ∈ ([] : List Cond), w.before args s = true := fun _ h => nomatch h
theorem vx_own {args : Array Value} {s : State} {L : List Cond} (h1 : ∀ w ∈ L.filter vx_no, w.before args s = true)
    (hU : (Cond.isRef (.static Bundle.tN "UNASSIGNED_STACK" Bundle.steD)).before args s = true) (hN : (Cond.isRef (.static Bundle.tN "SUPPRESSED_SENTINEL" Bundle.listD)).before args s = true)
    (lU : (Cond.laysStatic Bundle.tN "UNASSIGNED_STACK" Bundle.steD).before args s = true) (lN : (Cond.laysStatic Bundle.tN "SUPPRESSED_SENTINEL" Bundle.listD).before args s = true) : ∀ w ∈ L, w.before args s = true := by
  intro w hw
  by_cases e1 : w = .isRef (.static Bundle.tN "UNASSIGNED_STACK" Bundle.steD)
  · rw [e1]; exact hU
  · by_cases e2 : w = .isRef (.static Bundle.tN "SUPPRESSED_SENTINEL" Bundle.listD)
    · rw [e2]; exact hN
    · by_cases e3 : w = .laysStatic Bundle.tN "UNASSIGNED_STACK" Bundle.steD
      · rw [e3]; exact lU
      · by_cases e4 : w = .laysStatic Bundle.tN "SUPPRESSED_SENTINEL" Bundle.listD
        · rw [e4]; exact lN
        · exact h1 w (List.mem_filter.mpr ⟨hw, by unfold vx_no; rw [decide_eq_true e1, decide_eq_true e2, decide_eq_true e3, decide_eq_true e4]; rfl⟩)
/-- where a static field lies, its class's statics cell in H -/
def vx_L (C n d : String) (A : Nat → Prop) (U : State) (H : Heap) : Prop := ∃ (c : ClassId) (k : Class) (i : Nat) (f : Field) (a : Nat) (cell : Cell), U.vm.findClass C = some c ∧ U.fieldFound? C n d = some (c, k, i, f) ∧ f.isStatic = true ∧ k.statics = some a ∧ H[a]? = some cell ∧ cell.vm.isStatics = true ∧ cell.cls = c ∧ f.slot < cell.slots.size ∧ k.staticTypes[f.slot]? = some f.type ∧ ¬ A a
theorem vx_L.moved {C n d : String} {A : Nat → Prop} {u U : State} {H : Heap} (hvm : u.vm.Alike U.vm) (h : vx_L C n d A u H) : vx_L C n d A U H := by
  obtain ⟨c, k, i, f, a, cell, h1, h2, h3, h4, h5, h6, h7, h8, h9, h10⟩ := h
  obtain ⟨k', hi', he⟩ := State.fieldFound?_setVm hvm h2
  exact ⟨c, k', i, f, a, cell, by rw [hvm.findClass]; exact h1, hi', h3, by rw [he]; exact h4, h5, h6, h7, h8, by rw [he]; exact h9, h10⟩
theorem vx_L.kept {C n d : String} {A : Nat → Prop} {U : State} {H H1 : Heap} (h : vx_L C n d A U H) (hq : ∀ a : Nat, a < H.size → ¬ A a → H1[a]? = H[a]?) : vx_L C n d A U H1 := by
  obtain ⟨c, k, i, f, a, cell, h1, h2, h3, h4, h5, h6, h7, h8, h9, h10⟩ := h
  exact ⟨c, k, i, f, a, cell, h1, h2, h3, h4, by rw [hq a (Array.getElem?_eq_some_iff.mp h5).1 h10]; exact h5, h6, h7, h8, h9, h10⟩
theorem vx_L.narrow {C n d : String} {A B : Nat → Prop} {U : State} {H : Heap} (h : vx_L C n d A U H) (hAB : ∀ q, B q → A q) : vx_L C n d B U H := by
  obtain ⟨c, k, i, f, a, cell, h1, h2, h3, h4, h5, h6, h7, h8, h9, h10⟩ := h
  exact ⟨c, k, i, f, a, cell, h1, h2, h3, h4, h5, h6, h7, h8, h9, fun z => h10 (hAB _ z)⟩
theorem vx_L.word {C n d : String} {A : Nat → Prop} {s : State} {args : Array Value} (h : vx_L C n d A s s.heap) : (Cond.laysStatic C n d).before args s = true := by
  obtain ⟨c, k, i, f, a, cell, h1, h2, h3, h4, h5, h6, h7, h8, h9, -⟩ := h
  show (Cond.laysStatic C n d).holds args s none s [] = true
  exact Cond.laysStatic_of h1 h2 h3 h4 h5 h6 h7 h8 h9
/-- .. and what it holds: null or some reference -/
def vx_Zq (C n d : String) (A : Nat → Prop) (U : State) (H : Heap) : Prop := va_Zq C n d A U H ∧ vx_L C n d A U H
theorem vx_Zq.moved {C n d : String} {A : Nat → Prop} {u U : State} {H : Heap} (hvm : u.vm.Alike U.vm) (h : vx_Zq C n d A u H) : vx_Zq C n d A U H := ⟨va_Zq.moved hvm h.1, vx_L.moved hvm h.2⟩
theorem vx_Zq.kept {C n d : String} {A : Nat → Prop} {U : State} {H H1 : Heap} (h : vx_Zq C n d A U H) (hq : ∀ a : Nat, a < H.size → ¬ A a → H1[a]? = H[a]?) : vx_Zq C n d A U H1 := ⟨va_Zq.kept h.1 hq, vx_L.kept h.2 hq⟩
theorem vx_Zq.narrow {C n d : String} {A B : Nat → Prop} {U : State} {H : Heap} (h : vx_Zq C n d A U H) (hAB : ∀ q, B q → A q) : vx_Zq C n d B U H := ⟨va_Zq.narrow h.1 hAB, vx_L.narrow h.2 hAB⟩
theorem vx_Zqof {args : Array Value} {s : State} {C n d : String} {A : Nat → Prop} (hl : (Cond.laysStatic C n d).before args s = true) (hini : (Cond.initialized C).before args s = true) (h : (Cond.isRef (.static C n d)).before args s = true) (hA : ∀ a : Nat, a < s.heap.size → ¬ A a) : vx_Zq C n d A s s.heap := by
  refine ⟨va_Zqof hl hini h hA, ?_⟩
  obtain ⟨c, k, i, f, a, cell, h1, h2, h3, h4, h5, h6, h7, h8, h9⟩ := Cond.laysStatic_spec hl
  exact ⟨c, k, i, f, a, cell, h1, h2, h3, h4, h5, h6, h7, h8, h9, hA a (Array.getElem?_eq_some_iff.mp h5).1⟩
theorem vx_isRef {C n d : String} {v : Value} {A : Nat → Prop} {s : State} {args : Array Value} (h : va_Z C n d v A s s.heap) (hv : v.isRef = true) : (Cond.isRef (.static C n d)).before args s = true := by
  obtain ⟨cf, kf, fi, f, a, cell, h1, h2, h3, h4, h5, h6, h7, -⟩ := h
  have he : (Term.static C n d).eval args s none [] s = some v := by
    simp [Term.eval, State.fieldNamed?, h1, h2, h4, h5, h6, h7]
  simp only [Cond.before, Cond.holds, Cond.value, he]
  cases v <;> simp_all [Value.isRef]
theorem vx_isRefq {C n d : String} {A : Nat → Prop} {s : State} {args : Array Value} (h : va_Zq C n d A s s.heap) : (Cond.isRef (.static C n d)).before args s = true := by
  rcases h with h | ⟨t, h⟩
  · exact vx_isRef h rfl
  · exact vx_isRef h rfl
/-- the same frame, seen from here: as if the method were called anew in this heap -/
theorem vx_rebase {T : State} (X : Stand p l e R s m args below meth c T locs cells slots) {R' : Room} (hf : R'.frames ≤ R.frames) (hl : R'.locals ≤ R.locals) (hc : cells + R'.cells ≤ R.cells) (hs : slots + R'.slots ≤ R.slots) :
    Stand p l e R' ((T.setVm s.vm).setFrames (.invoking m args :: below)) m args below meth c T [] 0 0 := by
  have htop : (T.setVm s.vm).topJava?.isSome := X.here.top
  have hF : ((T.setVm s.vm).setFrames (.invoking m args :: below)).frames = .invoking m args :: below := State.frames_setFrames _ (State.cur_lt_of_top htop)
  obtain ⟨g₀, hg0⟩ := Option.isSome_iff_exists.mp htop
  obtain ⟨r, hr⟩ := State.topJava?_eq_some.mp hg0
  have hl9 : e.platform.stackLimits (T.setVm s.vm).me = e.platform.stackLimits s.me := X.limits
  have hb9 : (T.setVm s.vm).me.stackBytes = s.me.stackBytes := X.bytes
  refine ⟨X.admits, X.cas, X.clock, hF, ?_, X.hears, X.method, X.code, X.here, X.tail, X.warmed, ?_, ?_, ?_⟩
  · have h := X.room
    have hU : ((T.setVm s.vm).setFrames (.invoking m args :: below)).localsInUse = s.localsInUse := by
      rw [State.localsInUse_invoking hF (meth := meth) (c := c) X.method X.code, State.localsInUse_invoking X.frames X.method X.code]
    simp only [State.hasRoom, Bool.and_eq_true, decide_eq_true_eq] at h ⊢
    obtain ⟨⟨⟨⟨h1, h2, h3, h4, h5, h6⟩, h7⟩, h8⟩, h9⟩ := h
    rw [X.frames, List.length_cons] at h2 h3
    have q1 := X.heapSize
    have q2 := X.used
    simp only [hF, hU, List.length_cons, State.stackLimits_setFrames, State.stackBytes_setFrames, hl9, hb9]
    refine ⟨⟨⟨⟨by omega, by omega, by omega, by omega, by omega, h6⟩, ?_⟩, ?_⟩, X.book⟩
    · show T.heap.size + R'.cells ≤ e.platform.maxCells
      omega
    · show T.slotsUsed + R'.slots ≤ e.platform.maxSlots
      omega
  · rw [State.stackLimits_setFrames]; rfl
  · rw [State.stackBytes_setFrames]; rfl
  · refine ⟨?_, Nat.le_refl _, Nat.le_refl _, ?_, ?_, fun a c9 h9 => ⟨c9, h9, rfl, rfl, fun _ _ => rfl⟩⟩
    · obtain ⟨t, ht, -⟩ := State.frames_cons hr
      show T.setVm s.vm = { ((T.setVm s.vm).setFrames (.invoking m args :: below)).setFrames (T.setVm s.vm).frames with heap := T.heap, slotsUsed := T.slotsUsed }
      rw [State.setFrames_setFrames, State.setFrames_self ht]
      rfl
    · show T.slotsUsed = T.slotsUsed + ((T.heap.toList.drop T.heap.size).map (·.slots.size)).sum
      rw [List.drop_eq_nil_of_le (Nat.le_of_eq Array.length_toList)]
      rfl
    · show ((T.heap.toList.drop T.heap.size).map (·.slots.size)).sum ≤ 0
      rw [List.drop_eq_nil_of_le (Nat.le_of_eq Array.length_toList)]
      exact Nat.le_refl _
/-- 'throw new E()': new; dup; invokespecial; athrow -/
theorem vx_throw0 {cc : ByteArray} {pc : Nat} (hexec : p.tables.exec = Jvm.exec) (hb : c.code = cc) (hl : l.stackTraces = false) {own cls : String} {names : List String} {ik ic mc ms : Nat} {A : Nat → Prop}
    (hown : s.vm.findClass own = some m.cls) (hcls : Bundle.fit cls = true) (hnames : ∀ n ∈ names, Bundle.fit n = true)
    (hk : (Cond.classLink own ik cls).before args s = true) (hini : (Cond.initialized cls).before args s = true) (hat : ∀ w ∈ vx_at0 own ic cls names, w.before args s = true)
    (hgood : ∀ w ∈ Cond.classLink own ik cls :: Cond.initialized cls :: vx_at0 own ic cls names, vx_ot w = true)
    (hU : vx_Zq Bundle.tN "UNASSIGNED_STACK" Bundle.steD A s s.heap) (hN : vx_Zq Bundle.tN "SUPPRESSED_SENTINEL" Bundle.listD A s s.heap) (hS : va_S A s.heap H locs) (hsize : ls.size = c.maxLocals)
    (d0 : decode cc pc = .ok (.new ik, 3)) (d3 : decode cc (pc + 3) = .ok (.dup, 1)) (d4 : decode cc (pc + 4) = .ok (.invokespecial ic, 3)) (d7 : decode cc (pc + 7) = .ok (.athrow, 1))
    (hout : ∀ x ∈ c.exceptionTable.toList, covers x (pc + 7) = false)
    (hRframes : names.length + 3 < R.frames) (hRlocals : (rest.map fun v => v.category).sum + (13 * (names.length + 1) + 42) ≤ R.locals) (hRcells : cells + 1 ≤ R.cells) (hRslots : slots + 6 ≤ R.slots) (hlocks : meth.locks = false)
    (hx : ∀ t : State, s.vm.Alike t.vm → H.size ≤ t.heap.size → (∀ q : Nat, q < H.size → t.heap[q]? = H[q]?) → XC cls s t)
    (hf : ∀ z ∈ locs, free z.base) (hc : cells + 1 ≤ mc) (hs : slots + 6 ≤ ms) :
    W p l e R s m args below meth c H locs cells slots (vx_MQ below Qc XC args s mc ms free) (F0 m pc ls rest) := by
  intro T hT X
  have htr : e.platform.stackTraces = false := (show e.platform.stackTraces = l.stackTraces by rw [X.admits.platform]).trans hl
  have Y := vx_rebase X (R' := { frames := R.frames, locals := R.locals, cells := 1, slots := 6 }) (Nat.le_refl _) (Nat.le_refl _) hRcells hRslots
  obtain ⟨s', hA⟩ : ∃ z, z = (T.setVm s.vm).setFrames (.invoking m args :: below) := ⟨_, rfl⟩
  rw [← hA] at Y
  have hvm : s'.vm = s.vm := by rw [hA]; rfl
  have hhp : s'.heap = H := by rw [hA]; exact hT
  have hW0 : s.WarmedH s'.vm := by rw [hvm]; exact State.WarmedH.refl s
  have hat' : ∀ w ∈ vx_at0 own ic cls names, w.before args s' = true := fun w hw => vx_ot_at hW0 hvm.symm (hgood w (List.mem_cons_of_mem _ (List.mem_cons_of_mem _ hw))) (hat w hw)
  have hk' : (Cond.classLink own ik cls).before args s' = true := vx_ot_at hW0 hvm.symm (hgood _ List.mem_cons_self) hk
  have hini' : (Cond.initialized cls).before args s' = true := vx_ot_at hW0 hvm.symm (hgood _ (List.mem_cons_of_mem _ List.mem_cons_self)) hini
  have hU' : vx_Zq Bundle.tN "UNASSIGNED_STACK" Bundle.steD A s' s'.heap := by rw [hhp]; exact vx_Zq.moved hW0.alike (hU.kept hS.2.1)
  have hN' : vx_Zq Bundle.tN "SUPPRESSED_SENTINEL" Bundle.listD A s' s'.heap := by rw [hhp]; exact vx_Zq.moved hW0.alike (hN.kept hS.2.1)
  have h : ∀ w ∈ Bundle.ownAtoms0 own ic cls names, w.before args s' = true := vx_own hat' (vx_isRefq hU'.1) (vx_isRefq hN'.1) hU'.2.word hN'.2.word
  have hown' : s'.vm.findClass own = some m.cls := by rw [hvm]; exact hown
  have hins : (Cond.instantiable cls 6).before args s' = true := h _ (by simp [Bundle.ownAtoms0])
  obtain ⟨vm₁, cX, kX, hfX, hkX, -, -, X₁, st1⟩ := Y.newCold hexec (own := own) (C := cls) (index := ik) (n := 6) hown' hk' hins hini'
    (g := F0 m pc ls rest) rfl (by rw [hb]; exact d0) (Nat.le_refl _) (Nat.le_refl _)
  generalize hT1 : (T.setVm vm₁).pushCell { cls := cX, slots := kX.instanceTypes.map defaultValue, vm := .none } = T1 at X₁ st1
  have hcat : (Value.ref T.heap.size).category = 1 := rfl
  have hcellA : T1.heap[T.heap.size]? = some (freshCell cX kX) := by rw [← hT1]; exact State.heap_pushCell_size _ _
  have d3' : decode c.code (pc + 3) = .ok (.dup, 1) := by rw [hb]; exact d3
  obtain ⟨U, hsteps, hrun, hend, hW, hsame, ce, hce, hO⟩ := X₁.ctorThrow0 hexec htr (own := own) (cls := cls) (names := names) (ic := ic) hown' hcls hnames h (fun x hx => nomatch hx) hfX hkX hcellA (by rw [hhp, hT]; exact Nat.le_refl _)
    (g := { method := m, pc := pc + 4, locals := ls, stack := .ref T.heap.size :: .ref T.heap.size :: rest, locked := none }) rfl hsize rfl rfl (rest := rest) rfl
    (by rw [hb]; exact d4) (by rw [hb]; exact d7) hout hRframes (by simp only [List.map_cons, List.sum_cons, hcat]; omega) hlocks
  obtain ⟨f1, f2⟩ := vx_frame hsame
  rw [hhp] at f1 f2
  have hWs : s.WarmedH U.vm := State.WarmedH.trans hW0 hW
  have hcl : s.vm.findClass cls = some ce.cls := by
    have h9 := hO.cls
    rw [hvm] at h9
    exact h9
  have hall : s.sameButNew ({ U with vm := s.vm } : State) locs mc ms := by
    subst hA
    obtain ⟨e1, e2⟩ := hsame
    rw [State.setFrames_setFrames] at e1
    have h2 : (T.setVm s.vm).sameButNew ({ U with vm := s.vm } : State) [] (0 + 1) (0 + 6) := ⟨e1, e2⟩
    have h3 := X.same.trans h2
    rw [List.append_nil] at h3
    exact h3.mono hc hs
  refine ⟨U, ?_, .threw T.heap.size, hrun, hend, Or.inr ⟨T.heap.size, rfl, cls, ce, locs, hx U hWs.alike f1 (fun q hq => f2 q hq (fun z hz => nomatch hz)), hce, hO.vm, hcl, hWs, hall, hf⟩⟩
  refine st1 _ ?_
  show Steps p.tables e below (T1.setTop { method := m, pc := pc + 3, locals := ls, stack := .ref T.heap.size :: rest, locked := none }) _
  jvm_step X₁.here [X₁.here.top, hexec, d3', Value.category]
  exact hsteps
/-- 'throw new E("text")': new; dup; ldc; invokespecial; athrow -/
theorem vx_throwS {cc : ByteArray} {pc : Nat} (hexec : p.tables.exec = Jvm.exec) (hb : c.code = cc) (hl : l.stackTraces = false) {own cls text : String} {names : List String} {ik is ic mc ms sa : Nat} {A : Nat → Prop}
    (hown : s.vm.findClass own = some m.cls) (hcls : Bundle.fit cls = true) (hnames : ∀ n ∈ names, Bundle.fit n = true)
    (hk : (Cond.classLink own ik cls).before args s = true) (hini : (Cond.initialized cls).before args s = true) (hstr : vk_R own is text sa s) (hat : ∀ w ∈ vx_atS own ic cls names, w.before args s = true)
    (hgood : ∀ w ∈ Cond.classLink own ik cls :: Cond.initialized cls :: vx_atS own ic cls names, vx_ot w = true)
    (hU : vx_Zq Bundle.tN "UNASSIGNED_STACK" Bundle.steD A s s.heap) (hN : vx_Zq Bundle.tN "SUPPRESSED_SENTINEL" Bundle.listD A s s.heap) (hS : va_S A s.heap H locs) (hsize : ls.size = c.maxLocals)
    (d0 : decode cc pc = .ok (.new ik, 3)) (d3 : decode cc (pc + 3) = .ok (.dup, 1)) (d4 : decode cc (pc + 4) = .ok (.ldc is, 2)) (d6 : decode cc (pc + 6) = .ok (.invokespecial ic, 3)) (d9 : decode cc (pc + 9) = .ok (.athrow, 1))
    (hout : ∀ x ∈ c.exceptionTable.toList, covers x (pc + 9) = false)
    (hRframes : names.length + 3 < R.frames) (hRlocals : (rest.map fun v => v.category).sum + (13 * (names.length + 1) + 43) ≤ R.locals) (hRcells : cells + 1 ≤ R.cells) (hRslots : slots + 6 ≤ R.slots) (hlocks : meth.locks = false)
    (hx : ∀ t : State, s.vm.Alike t.vm → H.size ≤ t.heap.size → (∀ q : Nat, q < H.size → t.heap[q]? = H[q]?) → XC cls s t)
    (hf : ∀ z ∈ locs, free z.base) (hc : cells + 1 ≤ mc) (hs : slots + 6 ≤ ms) :
    W p l e R s m args below meth c H locs cells slots (vx_MQ below Qc XC args s mc ms free) (F0 m pc ls rest) := by
  intro T hT X
  have htr : e.platform.stackTraces = false := (show e.platform.stackTraces = l.stackTraces by rw [X.admits.platform]).trans hl
  have Y := vx_rebase X (R' := { frames := R.frames, locals := R.locals, cells := 1, slots := 6 }) (Nat.le_refl _) (Nat.le_refl _) hRcells hRslots
  obtain ⟨s', hA⟩ : ∃ z, z = (T.setVm s.vm).setFrames (.invoking m args :: below) := ⟨_, rfl⟩
  rw [← hA] at Y
  have hvm : s'.vm = s.vm := by rw [hA]; rfl
  have hhp : s'.heap = H := by rw [hA]; exact hT
  have hW0 : s.WarmedH s'.vm := by rw [hvm]; exact State.WarmedH.refl s
  have hat' : ∀ w ∈ vx_atS own ic cls names, w.before args s' = true := fun w hw => vx_ot_at hW0 hvm.symm (hgood w (List.mem_cons_of_mem _ (List.mem_cons_of_mem _ hw))) (hat w hw)
  have hk' : (Cond.classLink own ik cls).before args s' = true := vx_ot_at hW0 hvm.symm (hgood _ List.mem_cons_self) hk
  have hini' : (Cond.initialized cls).before args s' = true := vx_ot_at hW0 hvm.symm (hgood _ (List.mem_cons_of_mem _ List.mem_cons_self)) hini
  have hU' : vx_Zq Bundle.tN "UNASSIGNED_STACK" Bundle.steD A s' s'.heap := by rw [hhp]; exact vx_Zq.moved hW0.alike (hU.kept hS.2.1)
  have hN' : vx_Zq Bundle.tN "SUPPRESSED_SENTINEL" Bundle.listD A s' s'.heap := by rw [hhp]; exact vx_Zq.moved hW0.alike (hN.kept hS.2.1)
  have h : ∀ w ∈ Bundle.ownAtoms own ic cls names, w.before args s' = true := vx_own hat' (vx_isRefq hU'.1) (vx_isRefq hN'.1) hU'.2.word hN'.2.word
  have hown' : s'.vm.findClass own = some m.cls := by rw [hvm]; exact hown
  have hins : (Cond.instantiable cls 6).before args s' = true := h _ (by simp [Bundle.ownAtoms])
  obtain ⟨vm₁, cX, kX, hfX, hkX, -, -, X₁, st1⟩ := Y.newCold hexec (own := own) (C := cls) (index := ik) (n := 6) hown' hk' hins hini'
    (g := F0 m pc ls rest) rfl (by rw [hb]; exact d0) (Nat.le_refl _) (Nat.le_refl _)
  generalize hT1 : (T.setVm vm₁).pushCell { cls := cX, slots := kX.instanceTypes.map defaultValue, vm := .none } = T1 at X₁ st1
  have hcat : (Value.ref T.heap.size).category = 1 := rfl
  have hcellA : T1.heap[T.heap.size]? = some (freshCell cX kX) := by rw [← hT1]; exact State.heap_pushCell_size _ _
  have d3' : decode c.code (pc + 3) = .ok (.dup, 1) := by rw [hb]; exact d3
  have d4' : decode c.code (pc + 4) = .ok (.ldc is, 2) := by rw [hb]; exact d4
  have hstr' : vk_R own is text sa s' := vk_R.warm hW0 hstr
  obtain ⟨U, hsteps, hrun, hend, hW, hsame, ce, hce, hO⟩ := X₁.ctorThrowS hexec htr (own := own) (cls := cls) (names := names) (ic := ic) hown' hcls hnames h (fun x hx => nomatch hx) hfX hkX hcellA (by rw [hhp, hT]; exact Nat.le_refl _) (msg := .ref sa) rfl
    (g := { method := m, pc := pc + 6, locals := ls, stack := .ref sa :: .ref T.heap.size :: .ref T.heap.size :: rest, locked := none }) rfl hsize rfl rfl (rest := rest) rfl
    (by rw [hb]; exact d6) (by rw [hb]; exact d9) hout hRframes (by simp only [List.map_cons, List.sum_cons, hcat]; omega) hlocks
  obtain ⟨f1, f2⟩ := vx_frame hsame
  rw [hhp] at f1 f2
  have hWs : s.WarmedH U.vm := State.WarmedH.trans hW0 hW
  have hcl : s.vm.findClass cls = some ce.cls := by
    have h9 := hO.cls
    rw [hvm] at h9
    exact h9
  have hall : s.sameButNew ({ U with vm := s.vm } : State) locs mc ms := by
    subst hA
    obtain ⟨e1, e2⟩ := hsame
    rw [State.setFrames_setFrames] at e1
    have h2 : (T.setVm s.vm).sameButNew ({ U with vm := s.vm } : State) [] (0 + 1) (0 + 6) := ⟨e1, e2⟩
    have h3 := X.same.trans h2
    rw [List.append_nil] at h3
    exact h3.mono hc hs
  refine ⟨U, ?_, .threw T.heap.size, hrun, hend, Or.inr ⟨T.heap.size, rfl, cls, ce, locs, hx U hWs.alike f1 (fun q hq => f2 q hq (fun z hz => nomatch hz)), hce, hO.vm, hcl, hWs, hall, hf⟩⟩
  refine st1 _ ?_
  show Steps p.tables e below (T1.setTop { method := m, pc := pc + 3, locals := ls, stack := .ref T.heap.size :: rest, locked := none }) _
  jvm_step X₁.here [X₁.here.top, hexec, d3', Value.category]
  exact X₁.ldcString hexec (own := own) (text := text) (index := is) (a := sa) hown' hstr'.1 hstr'.2
    (g := { method := m, pc := pc + 4, locals := ls, stack := .ref T.heap.size :: .ref T.heap.size :: rest, locked := none }) rfl d4' _ hsteps
/-- 'throw new E("text")', the text by a wide index -/
theorem vx_throwSW {cc : ByteArray} {pc : Nat} (hexec : p.tables.exec = Jvm.exec) (hb : c.code = cc) (hl : l.stackTraces = false) {own cls text : String} {names : List String} {ik is ic mc ms sa : Nat} {A : Nat → Prop}
    (hown : s.vm.findClass own = some m.cls) (hcls : Bundle.fit cls = true) (hnames : ∀ n ∈ names, Bundle.fit n = true)
    (hk : (Cond.classLink own ik cls).before args s = true) (hini : (Cond.initialized cls).before args s = true) (hstr : vk_R own is text sa s) (hat : ∀ w ∈ vx_atS own ic cls names, w.before args s = true)
    (hgood : ∀ w ∈ Cond.classLink own ik cls :: Cond.initialized cls :: vx_atS own ic cls names, vx_ot w = true)
    (hU : vx_Zq Bundle.tN "UNASSIGNED_STACK" Bundle.steD A s s.heap) (hN : vx_Zq Bundle.tN "SUPPRESSED_SENTINEL" Bundle.listD A s s.heap) (hS : va_S A s.heap H locs) (hsize : ls.size = c.maxLocals)
    (d0 : decode cc pc = .ok (.new ik, 3)) (d3 : decode cc (pc + 3) = .ok (.dup, 1)) (d4 : decode cc (pc + 4) = .ok (.ldc_w is, 3)) (d7 : decode cc (pc + 7) = .ok (.invokespecial ic, 3)) (d10 : decode cc (pc + 10) = .ok (.athrow, 1))
    (hout : ∀ x ∈ c.exceptionTable.toList, covers x (pc + 10) = false)
    (hRframes : names.length + 3 < R.frames) (hRlocals : (rest.map fun v => v.category).sum + (13 * (names.length + 1) + 43) ≤ R.locals) (hRcells : cells + 1 ≤ R.cells) (hRslots : slots + 6 ≤ R.slots) (hlocks : meth.locks = false)
    (hx : ∀ t : State, s.vm.Alike t.vm → H.size ≤ t.heap.size → (∀ q : Nat, q < H.size → t.heap[q]? = H[q]?) → XC cls s t)
    (hf : ∀ z ∈ locs, free z.base) (hc : cells + 1 ≤ mc) (hs : slots + 6 ≤ ms) :
    W p l e R s m args below meth c H locs cells slots (vx_MQ below Qc XC args s mc ms free) (F0 m pc ls rest) := by
  intro T hT X
  have htr : e.platform.stackTraces = false := (show e.platform.stackTraces = l.stackTraces by rw [X.admits.platform]).trans hl
  have Y := vx_rebase X (R' := { frames := R.frames, locals := R.locals, cells := 1, slots := 6 }) (Nat.le_refl _) (Nat.le_refl _) hRcells hRslots
  obtain ⟨s', hA⟩ : ∃ z, z = (T.setVm s.vm).setFrames (.invoking m args :: below) := ⟨_, rfl⟩
  rw [← hA] at Y
  have hvm : s'.vm = s.vm := by rw [hA]; rfl
  have hhp : s'.heap = H := by rw [hA]; exact hT
  have hW0 : s.WarmedH s'.vm := by rw [hvm]; exact State.WarmedH.refl s
  have hat' : ∀ w ∈ vx_atS own ic cls names, w.before args s' = true := fun w hw => vx_ot_at hW0 hvm.symm (hgood w (List.mem_cons_of_mem _ (List.mem_cons_of_mem _ hw))) (hat w hw)
  have hk' : (Cond.classLink own ik cls).before args s' = true := vx_ot_at hW0 hvm.symm (hgood _ List.mem_cons_self) hk
  have hini' : (Cond.initialized cls).before args s' = true := vx_ot_at hW0 hvm.symm (hgood _ (List.mem_cons_of_mem _ List.mem_cons_self)) hini
  have hU' : vx_Zq Bundle.tN "UNASSIGNED_STACK" Bundle.steD A s' s'.heap := by rw [hhp]; exact vx_Zq.moved hW0.alike (hU.kept hS.2.1)
  have hN' : vx_Zq Bundle.tN "SUPPRESSED_SENTINEL" Bundle.listD A s' s'.heap := by rw [hhp]; exact vx_Zq.moved hW0.alike (hN.kept hS.2.1)
  have h : ∀ w ∈ Bundle.ownAtoms own ic cls names, w.before args s' = true := vx_own hat' (vx_isRefq hU'.1) (vx_isRefq hN'.1) hU'.2.word hN'.2.word
  have hown' : s'.vm.findClass own = some m.cls := by rw [hvm]; exact hown
  have hins : (Cond.instantiable cls 6).before args s' = true := h _ (by simp [Bundle.ownAtoms])
  obtain ⟨vm₁, cX, kX, hfX, hkX, -, -, X₁, st1⟩ := Y.newCold hexec (own := own) (C := cls) (index := ik) (n := 6) hown' hk' hins hini'
    (g := F0 m pc ls rest) rfl (by rw [hb]; exact d0) (Nat.le_refl _) (Nat.le_refl _)
  generalize hT1 : (T.setVm vm₁).pushCell { cls := cX, slots := kX.instanceTypes.map defaultValue, vm := .none } = T1 at X₁ st1
  have hcat : (Value.ref T.heap.size).category = 1 := rfl
  have hcellA : T1.heap[T.heap.size]? = some (freshCell cX kX) := by rw [← hT1]; exact State.heap_pushCell_size _ _
  have d3' : decode c.code (pc + 3) = .ok (.dup, 1) := by rw [hb]; exact d3
  have d4' : decode c.code (pc + 4) = .ok (.ldc_w is, 3) := by rw [hb]; exact d4
  have hstr' : vk_R own is text sa s' := vk_R.warm hW0 hstr
  obtain ⟨U, hsteps, hrun, hend, hW, hsame, ce, hce, hO⟩ := X₁.ctorThrowS hexec htr (own := own) (cls := cls) (names := names) (ic := ic) hown' hcls hnames h (fun x hx => nomatch hx) hfX hkX hcellA (by rw [hhp, hT]; exact Nat.le_refl _) (msg := .ref sa) rfl
    (g := { method := m, pc := pc + 7, locals := ls, stack := .ref sa :: .ref T.heap.size :: .ref T.heap.size :: rest, locked := none }) rfl hsize rfl rfl (rest := rest) rfl
    (by rw [hb]; exact d7) (by rw [hb]; exact d10) hout hRframes (by simp only [List.map_cons, List.sum_cons, hcat]; omega) hlocks
  obtain ⟨f1, f2⟩ := vx_frame hsame
  rw [hhp] at f1 f2
  have hWs : s.WarmedH U.vm := State.WarmedH.trans hW0 hW
  have hcl : s.vm.findClass cls = some ce.cls := by
    have h9 := hO.cls
    rw [hvm] at h9
    exact h9
  have hall : s.sameButNew ({ U with vm := s.vm } : State) locs mc ms := by
    subst hA
    obtain ⟨e1, e2⟩ := hsame
    rw [State.setFrames_setFrames] at e1
    have h2 : (T.setVm s.vm).sameButNew ({ U with vm := s.vm } : State) [] (0 + 1) (0 + 6) := ⟨e1, e2⟩
    have h3 := X.same.trans h2
    rw [List.append_nil] at h3
    exact h3.mono hc hs
  refine ⟨U, ?_, .threw T.heap.size, hrun, hend, Or.inr ⟨T.heap.size, rfl, cls, ce, locs, hx U hWs.alike f1 (fun q hq => f2 q hq (fun z hz => nomatch hz)), hce, hO.vm, hcl, hWs, hall, hf⟩⟩
  refine st1 _ ?_
  show Steps p.tables e below (T1.setTop { method := m, pc := pc + 3, locals := ls, stack := .ref T.heap.size :: rest, locked := none }) _
  jvm_step X₁.here [X₁.here.top, hexec, d3', Value.category]
  exact X₁.ldcStringW hexec (own := own) (text := text) (index := is) (a := sa) hown' hstr'.1 hstr'.2
    (g := { method := m, pc := pc + 4, locals := ls, stack := .ref T.heap.size :: .ref T.heap.size :: rest, locked := none }) rfl d4' _ hsteps
end Ends
section Bodies
variable {l : Launch}
theorem vx_ofW {y : MethodName} {ws ws' : List Cond} {rm : Room} {Pc : Array Value → State → Prop} {Qc : Array Value → State → Outcome → State → Prop} {XC : String → State → State → Prop} {mc ms : Nat} {free : Addr → Prop} {cc : ByteArray} {maxL : Nat} {ret : Option FieldType}
    (hy : plainName y.cls = true) (hw : ws = Cond.code y cc maxL ret :: ws')
    (body : ∀ p e s m args below meth c s₁, BodyLoose p l y (headSpec ws rm) cc maxL ret e s m args below meth c s₁ → c.maxLocals = maxL → (∀ x ∈ c.exceptionTable.toList, False) → Pc args s →
      W p l e (headSpec ws rm).room s m args below meth c s.heap [] 0 0 (vx_MQ below Qc XC args s mc ms free) (entryFrame m args maxL)) : vx_Met l y ws rm Pc Qc XC mc ms free := by
  refine MetFree.of_bodyS (code := cc) (maxLocals := maxL) (ret := ret) hy ?_ ?_
  · intro args s m h hn
    obtain ⟨meth, c, h1, h2, h3, h4, h5, h6, -, -⟩ := Cond.code_spec hn (atoms_spec (ws := ws) h _ (by rw [hw]; exact List.mem_cons_self))
    exact ⟨meth, c, h1, h2, h3, h4, h5, h6⟩
  · intro p e s m args below meth c s₁ B hml hP _
    have hh0 : s₁.heap = s.heap := by rw [B.state]; rfl
    have ht : ∀ x ∈ c.exceptionTable.toList, False := by
      obtain ⟨meth9, c9, h1, h2, -, -, -, -, h7, -⟩ := Cond.code_spec B.named (atoms_spec (ws := ws) B.pre _ (by rw [hw]; exact List.mem_cons_self))
      cases Option.some.inj (h1.symm.trans B.method)
      cases Option.some.inj (h2.symm.trans (Stand.of_body B).code)
      intro x hx
      rw [Array.isEmpty_iff.mp h7] at hx
      cases hx
    obtain ⟨t, a1, o, b1, b2, b3⟩ := body p e s m args below meth c s₁ B hml ht hP s₁ hh0 (Stand.of_body B)
    exact ⟨t, o, a1, b1, b2, b3⟩
/-- the table of a body with handlers -/
theorem vx_table {p : Program} {x y : MethodName} {S : Spec} {cc bytes : ByteArray} {maxL maxL' : Nat} {ret ret' : Option FieldType} {e : Env} {s s₁ : State} {m : MethodId} {args : Array Value} {below : List Frame} {meth : Method} {c : Code} {hh : List (Nat × Nat × Nat × Nat)}
    (B : BodyLoose p l y S cc maxL ret e s m args below meth c s₁) (h : (Cond.codeWith y bytes maxL' ret' hh).before args s = true) : c.exceptionTable.toList = tableOf hh := by
  obtain ⟨m9, meth9, c9, hn9, h1, h2, -, -, h6, -⟩ := Cond.codeWith_spec h
  cases Option.some.inj (hn9.symm.trans B.named)
  cases Option.some.inj (h1.symm.trans B.method)
  cases Option.some.inj (h2.symm.trans (Stand.of_body B).code)
  rw [← h6, table_eq]
end Bodies
end VXA
/-! ===== END ===== -/
/-! ===== BEGIN a static call of a method with an exception table ===== -/
section VXS
variable {p : Program} {l : Launch} {e : Env} {R : Room} {s : State} {m : MethodId} {args : Array Value} {below : List Frame} {meth : Method} {c : Code} {T : State} {H : Heap} {locs : List Loc} {cells slots : Nat}
abbrev vx_CSW (R : Room) (s : State) (args : Array Value) (own : String) (index : Nat) (y : MethodName) (bytes : ByteArray) (maxL : Nat) (ret : Option FieldType) (hh : List (Nat × Nat × Nat × Nat)) (ws : List Cond) (rm : Room) (mc ms n : Nat) : Prop :=
  (rm.cells = mc ∧ rm.slots = ms ∧ rm.frames + 1 ≤ R.frames ∧ 8 + (maxL + 11) + rm.locals ≤ R.locals ∧ (∀ w ∈ ws, ∀ (a' : Array Value) (U : State), s.WarmedH U.vm → w.before a' U = true) ∧ Cond.codeWith y bytes maxL ret hh ∈ ws) ∧
  (Cond.codeWith y bytes maxL ret hh).before args s = true ∧ (Cond.initialized y.cls).before args s = true ∧ (y.cls ≠ "java/lang/invoke/MethodHandle" ∧ y.cls ≠ "java/lang/invoke/VarHandle") ∧
  (∀ sig, parseMethodDescriptor y.desc = some sig → n = sig.parameters.length) ∧ (Cond.methodLink own index y).before args s = true ∧ (Cond.static y).before args s = true
theorem vx_cwSW {own : String} {index maxL mc ms : Nat} {y : MethodName} {bytes : ByteArray} {ret : Option FieldType} {hh : List (Nat × Nat × Nat × Nat)} {Ts ws ws' : List Cond} {rm : Room} (n : Nat) (ht : ∀ w ∈ Ts, w.before args s = true) (hT : GoodIn Ts (va_wsS own index y ws)) (hw : ws = Cond.codeWith y bytes maxL ret hh :: ws') (hrc : rm.cells = mc) (hrs : rm.slots = ms)
    (hd : y.cls ≠ "java/lang/invoke/MethodHandle" ∧ y.cls ≠ "java/lang/invoke/VarHandle" ∧ (parseMethodDescriptor y.desc).map (fun d => d.parameters.length) = some n) (hR : rm.frames + 1 ≤ R.frames ∧ 8 + (maxL + 11) + rm.locals ≤ R.locals) :
    vx_CSW R s args own index y bytes maxL ret hh ws rm mc ms n := by
  have ok : ∀ w ∈ va_wsS own index y ws, w.before args s = true := fun w h => ht w (hT w h).1
  have hG : GoodIn Ts ws := fun w h => hT w (by unfold va_wsS; exact List.mem_append_right _ h)
  have hc : Cond.codeWith y bytes maxL ret hh ∈ ws := by rw [hw]; exact List.mem_cons_self
  refine ⟨⟨hrc, hrs, hR.1, hR.2, pay_in ht hG, hc⟩, ht _ (hG _ hc).1, ok _ (by simp [va_wsS]), ⟨hd.1, hd.2.1⟩, fun sig h => ?_, ok _ (by simp [va_wsS]), ok _ (by simp [va_wsS])⟩
  have h2 := hd.2.2
  rw [h] at h2
  exact (Option.some.inj h2).symm
theorem vx_callSW (X : Stand p l e R s m args below meth c T locs cells slots) (hexec : p.tables.exec = Jvm.exec) {own : String} {index : Nat} {y : MethodName} {bytes : ByteArray} {maxL : Nat} {ret : Option FieldType} {hh : List (Nat × Nat × Nat × Nat)}
    (hown : s.vm.findClass own = some m.cls) (hlink : (Cond.methodLink own index y).before args s = true) (hstat : (Cond.static y).before args s = true) (hinit : (Cond.initialized y.cls).before args s = true)
    (hcode : (Cond.codeWith y bytes maxL ret hh).before args s = true) (hy : y.cls ≠ "java/lang/invoke/MethodHandle" ∧ y.cls ≠ "java/lang/invoke/VarHandle")
    {W9 : Nat} {Pre : Pt → Array Value → Prop} {Post : Pt → Array Value → Option Value → Pt → Prop} (hK : Back l R p e below s args y 3 W9 Pre Post)
    {g : JFrame} (hg : g.method = m) (hsize : g.locals.size = c.maxLocals) {argsL rest : List Value} (hlen : ∀ sig, parseMethodDescriptor y.desc = some sig → argsL.length = sig.parameters.length)
    (hstack : g.stack = argsL.reverse ++ rest) (hW : 2 * g.monitorRoom + (rest.map fun v => v.category).sum ≤ W9) (hdg : decode c.code g.pc = .ok (.invokestatic index, 3))
    (hpre : ∀ vm₁, s.WarmedH vm₁ → Pre ⟨T.setVm vm₁, locs, cells, slots⟩ argsL.toArray) :
    ∃ (v : Option Value) (vm₁ : Vm) (B : Pt), s.WarmedH vm₁ ∧ Stand p l e R s m args below meth c B.U B.locs B.cells B.slots ∧ Post ⟨T.setVm vm₁, locs, cells, slots⟩ argsL.toArray v B ∧
      ∀ target, Steps p.tables e below (B.U.setTop { g with pc := g.pc + 3, stack := v.toList ++ rest }) target → Steps p.tables e below (T.setTop g) target := by
  obtain ⟨mk, methM, cM, hnamed, hmethM, -, -, -, -, -, -, hsigM⟩ := Cond.codeWith_spec hcode
  have hstatic : methM.isStatic = true := Cond.static_spec hnamed hmethM hstat
  obtain ⟨kP, hkP, -⟩ := className_of_methodNamed hnamed
  have hinitP : kP.init = .initialized := Cond.initialized_spec (findClass_of_methodNamed hnamed) hkP hinit
  obtain ⟨vm₁, X₁, hstep₁⟩ := X.invokestatic hexec hown hlink hnamed hmethM hstatic hkP hinitP hy (g := g) hg (argsL := argsL) (rest := rest) (hlen _ hsigM) hstack hdg
  obtain ⟨v, B, X', hpost, hsteps⟩ := hK m meth c ⟨T.setVm vm₁, locs, cells, slots⟩ { g with stack := rest } (.invokestatic index) mk argsL.toArray X₁ hg hsize hdg hW (X₁.named hnamed) (hpre vm₁ X₁.warmed)
  exact ⟨v, vm₁, B, X₁.warmed, X', hpost, fun target h => hstep₁ _ fun acts => by rw [doInvoke_state]; exact hsteps.trans h⟩
theorem vx_runSW {y : MethodName} {bytes cc : ByteArray} {maxL nL mc ms n index : Nat} {ret : Option FieldType} {hh : List (Nat × Nat × Nat × Nat)} {ws : List Cond} {rm : Room} {Pc : Array Value → State → Prop} {Qc : Array Value → State → Outcome → State → Prop} {free : Addr → Prop} {Ts : List Cond} {own : String} {As rest : List Value} {g : JFrame}
    (S : CallFix p m c cc nL s args Ts own) (hM : Met l y ws rm Pc Qc mc ms free) (cw : vx_CSW R s args own index y bytes maxL ret hh ws rm mc ms n) (hp : PreS s H Pc As)
    (hg : g.method = m) (hn : As.length = n) (hsize : g.locals.size = nL) (hstack : g.stack = As.reverse ++ rest) (hW : 2 * g.monitorRoom + (rest.map fun v => v.category).sum ≤ 8) (hdg : decode cc g.pc = .ok (.invokestatic index, 3)) (hf : cells + mc ≤ R.cells ∧ slots + ms ≤ R.slots) :
    va_Run p l e R s m args below meth c H locs cells slots mc ms g rest (Qc As.toArray) (free) := by
  obtain ⟨⟨hrc, hrs, hfr, hlo, hws, hcw⟩, hcode, hini, hy, hlen, hl, hstt⟩ := cw
  have hK : Back l R p e below s args y 3 8 (PreOf R mc ms Pc) (PostOf Qc mc ms free) := va_backW (hh := hh) (bytes := bytes) (maxL := maxL) (ret := ret) hM hp.1 hrc hrs hfr hlo hws hcw (fun a' U hW => word_at hW (Or.inl (by first | rfl | simp [Cond.onTables, Cond.keeps, Cond.steady])) hini)
  obtain ⟨hx, hb, hml, ho, -⟩ := S
  intro T hT X
  obtain ⟨v, vm₁, ⟨U', l2, c2, s2⟩, hW₁, X', ⟨g', mk, t, L, e1, e2, hq, h1, hL, h2, h3⟩, st⟩ := vx_callSW X hx (hh := hh) (bytes := bytes) (maxL := maxL) (ret := ret) ho hl hstt hini hcode hy hK hg (hsize.trans hml.symm) (argsL := As) (rest := rest) (fun sig h => hn.trans (hlen sig h)) hstack hW (by rw [hb]; exact hdg)
    (fun vm₁ hW₁ => ⟨hf.1, hf.2, hp.2 (T.setVm vm₁) hT hW₁⟩)
  dsimp only [Pt.U, Pt.locs, Pt.cells, Pt.slots] at X' e1 e2 h1 h2 h3 st
  subst h1; subst h2; subst h3
  exact ⟨v, (T.setVm vm₁).calling g' mk As.toArray, t, U', L, hT, X', hL, e1, e2, hq, st⟩
/-- not caught here, past rows that name other classes: it goes on to the caller -/
theorem vx_outP {p : Program} {l : Launch} {e : Env} {R : Room} {s : State} {m : MethodId} {args : Array Value} {below : List Frame} {meth : Method} {c : Code} {H : Heap} {locs : List Loc} {cells slots : Nat} {free : Addr → Prop} {ls : Array Slot} {rest : List Value} {Qc : Array Value → State → Outcome → State → Prop} {XC : String → State → State → Prop}
    {pc : Nat} {own E : String} {ce : Cell} {q : Addr} {mc ms : Nat} (hown : s.vm.findClass own = some m.cls) (hlocks : meth.locks = false)
    (hpass : ∀ z ∈ c.exceptionTable.toList, covers z pc = false ∨ (z.catchType ≠ 0 ∧ ∃ nm : String, (Cond.classLink own z.catchType nm).before args s = true ∧ va_Nc E nm s)) (hcell : H[q]? = some ce) (hv : ce.vm = .none) (hcl : s.vm.findClass E = some ce.cls)
    (hx : ∀ t : State, t.heap = H → s.vm.Alike t.vm → XC E s t) (hf : ∀ z ∈ locs, free z.base) (hc : cells ≤ mc) (hs : slots ≤ ms) :
    vx_W p l e R s m args below meth c H locs cells slots (vx_MQ below Qc XC args s mc ms free) (F0 m pc ls rest) q := by
  intro T hT X
  have hpl : e.platform.magicAccessors = ({} : Platform).magicAccessors := by rw [X.admits.platform]
  obtain ⟨vm', hW', X', st⟩ := X.outThrough hlocks q (g := F0 m pc ls rest) rfl rfl rfl (cell := ce) (by rw [hT]; exact hcell) (by rw [hv]; rfl)
    (by obtain ⟨k9, h9, -⟩ := Vm.findClass_spec hcl; exact ⟨k9, h9⟩) (fun z hz => by
      rcases hpass z hz with h | ⟨hz0, nm, hl1, hn1⟩
      · exact Or.inl h
      · obtain ⟨c6, hc6, hcl6⟩ := Cond.classLink_spec hown hl1 e.platform hpl
        obtain ⟨a8, b8, h1, h2, h3⟩ := hn1
        cases Option.some.inj (h1.symm.trans hcl)
        cases Option.some.inj (h2.symm.trans hc6)
        exact Or.inr ⟨hz0, _, hcl6, h3⟩)
  obtain ⟨g₀, hfr⟩ := X'.frames_eq
  have hcell9 : ((T.setVm vm').setFrames (.throwing q :: below)).heap[q]? = some ce := by
    show T.heap[q]? = some ce
    rw [hT]; exact hcell
  have hend : Ended ((T.setVm vm').setFrames (.throwing q :: below)) below (.threw q) := State.frames_setFrames _ (State.cur_lt_of_frames hfr)
  refine ⟨(T.setVm vm').setFrames (.throwing q :: below), ?_, .threw q, X'.here.running, hend, Or.inr ⟨q, rfl, E, ce, locs, hx _ hT (X'.ends _).1.alike, hcell9, hv, hcl, (X'.ends _).1, (X'.ends _).2.mono hc hs, hf⟩⟩
  rw [X.pushThrowing_eq]
  exact st
/-- a thing of a world lies in the heap -/
theorem vx_lt {D : va_G} {cl : List vw_C} {ws : va_W} {H1 : Heap} (h : va_P D cl ws H1) {k : Nat} {q : Nat × va_E} (hk : ws[k]? = some q) : q.1 < H1.size := (h k q hk).lt
end VXS
/-! ===== END ===== -/
/-! ===== BEGIN methods with a table of their own: called by a name, returning or throwing ===== -/
section VXH
/-! vx_backW, vx_callVX, vx_callSX, vx_callVW, vx_runVW, vx_runVX, vx_runSX, vx_ofWH follow the same proofs as their sisters above (Free/Laws.lean, Shelf42/LK1.lean); vx_outP calls Shelf42/NT130.lean (outThrough). -/
section
variable {l : Launch} {R : Room} {p : Program} {e : Env} {below : List Frame} {s : State} {sargs : Array Value} {y : MethodName} {len W9 : Nat}
theorem vx_backW {ws : List Cond} {rm : Room} {Pc : Array Value → State → Prop} {Qc : Array Value → State → Outcome → State → Prop} {XC : String → State → State → Prop} {mc ms : Nat} {free : Addr → Prop} {bytes : ByteArray} {maxL : Nat} {ret : Option FieldType} {hh : List (Nat × Nat × Nat × Nat)}
    (hM : vx_Met l y ws rm Pc Qc XC mc ms free) (hblind : FrameBlind Pc) (hrc : rm.cells = mc) (hrs : rm.slots = ms)
    (hframes : rm.frames + 1 ≤ R.frames) (hlocals : W9 + (maxL + 11) + rm.locals ≤ R.locals)
    (hws : ∀ w ∈ ws, ∀ a' U, s.WarmedH U.vm → w.before a' U = true) (hcode : Cond.codeWith y bytes maxL ret hh ∈ ws) (hinit : ∀ a' U, s.WarmedH U.vm → (Cond.initialized y.cls).before a' U = true) :
    vx_Back l R p e below s sargs y len W9 (PreOf R mc ms Pc) (PostOf Qc mc ms free) (vx_Post XC mc ms free) := by
  intro m meth c A g ig mk a X hg hsize hdg hW hn hp
  have h1 : (headSpec ws rm).pre.before a A.U = true := atoms_intro fun w hw => hws w hw _ _ X.warmed
  have h2 : (Cond.codeWith y bytes maxL ret hh).before a A.U = true := hws _ hcode _ _ X.warmed
  have h3 : (Cond.initialized y.cls).before a A.U = true := hinit _ _ X.warmed
  have h4 : A.cells + (headSpec ws rm).room.cells ≤ R.cells := by rw [show (headSpec ws rm).room.cells = mc from hrc]; exact hp.1
  have h5 : A.slots + (headSpec ws rm).room.slots ≤ R.slots := by rw [show (headSpec ws rm).room.slots = ms from hrs]; exact hp.2.1
  have hPc : Pc a (A.U.calling g mk a) := hblind _ _ _ _ hp.2.2
  obtain ⟨U, Ls, c0, s0⟩ := A
  dsimp only [Pt.U, Pt.locs, Pt.cells, Pt.slots] at h1 h2 h3 h4 h5 X hn hPc ⊢
  obtain ⟨m9, methY, cY, hn9, hmY, hcY, -, hlY, -⟩ := Cond.codeWith_spec h2
  cases Option.some.inj (hn9.symm.trans hn)
  obtain ⟨kY, hkY, -⟩ := className_of_methodNamed hn
  have hinitY : kY.init = .initialized := Cond.initialized_spec (findClass_of_methodNamed hn) hkY h3
  have h : At U g.method c below := by rw [hg]; exact X.here
  have hlocals9 : W9 + (maxL + 11) + (headSpec ws rm).room.locals ≤ R.locals := hlocals
  have happ : (headSpec ws rm).appliesLoose y e.platform (U.calling g mk a) = true :=
    Spec.appliesLoose_calling (g := g) h hdg hn hkY hinitY
      (X.room_calling (g := g) (R' := (headSpec ws rm).room) hsize hmY hcY hframes (by rw [hlY]; omega) h4 h5) h1
  obtain ⟨mid, hmid⟩ := h.above
  have hfr : (U.setTop g).frames = (.java g :: mid) ++ below := by rw [State.frames_setTop' g h.top, hmid]; rfl
  obtain ⟨o, s₂, hsteps, -, hend, hq⟩ := Steps.callFree hM p X.admits X.cas X.clock (acts := []) hfr happ hPc trivial
  have hq' : vx_Q Qc XC mc ms free a (U.calling g mk a) o s₂ := hq
  rw [State.frames_setTop' g h.top] at hend
  obtain ⟨g₀, hg0⟩ := Option.isSome_iff_exists.mp h.top
  obtain ⟨r, hr⟩ := State.topJava?_eq_some.mp hg0
  have hr' : (({ U with heap := s₂.heap, slotsUsed := s₂.slotsUsed } : State).setVm s₂.vm).frames = .java g₀ :: r := hr
  rcases hq' with ⟨hqc, L, hfe, hL⟩ | ⟨q, rfl, E, ce, L, hx, hce, hcv, hcl, hW₂, hsm, hL⟩
  · obtain ⟨⟨v, rfl⟩, hW₂, e2, q2, q3, q4, q5, q6⟩ := id hfe
    have e3 : s₂ = ({ (U.calling g mk a).setFrames s₂.frames with heap := s₂.heap, slotsUsed := s₂.slotsUsed } : State).setVm s₂.vm := by
      have : s₂ = ({ s₂ with vm := (U.calling g mk a).vm } : State).setVm s₂.vm := rfl
      rw [e2] at this
      exact this
    obtain ⟨c₂, i₂, len₂, hc₂, hd₂, hf₂⟩ := hend
    have hW' : U.WarmedH s₂.vm := hW₂
    have hcc : c₂ = c := by
      have h1 : s₂.code? g.method = U.code? g.method := by
        rw [State.code?_eq, State.code?_eq, hW'.alike.method?]
      exact Option.some.inj (hc₂.symm.trans (h1.trans h.code))
    subst hcc
    have hlen : len₂ = len := by rw [hdg] at hd₂; cases hd₂; rfl
    subst hlen
    have hs₂ : s₂ = (({ U with heap := s₂.heap, slotsUsed := s₂.slotsUsed } : State).setVm s₂.vm).setTop { g with pc := g.pc + len₂, stack := v.toList ++ g.stack } := by
      refine e3.trans ?_
      rw [hf₂, State.calling_eq h.top, State.setFrames_setFrames, State.setTop_of_frames _ hr', hr]
      rfl
    have hsame : U.sameButNew ({ U with heap := s₂.heap, slotsUsed := s₂.slotsUsed } : State) L mc ms := by
      refine ⟨?_, q2, q3, q4, q5, q6⟩
      obtain ⟨t, ht, -⟩ := State.frames_cons hr
      show ({ U with heap := s₂.heap, slotsUsed := s₂.slotsUsed } : State) = { U.setFrames U.frames with heap := s₂.heap, slotsUsed := s₂.slotsUsed }
      rw [State.setFrames_self ht]
    subst hg
    refine Or.inl ⟨v, ⟨(({ U with heap := s₂.heap, slotsUsed := s₂.slotsUsed } : State).setVm s₂.vm), Ls ++ L, c0 + mc, s0 + ms⟩,
      ⟨X.admits, X.cas, X.clock, X.frames, X.room, X.hears, X.method, X.code, (X.here.setHeapUsed s₂.heap s₂.slotsUsed).setVm hW'.alike, X.tail, State.WarmedH.trans X.warmed hW', X.limits, X.bytes, X.same.trans (hsame.setVm s.vm)⟩,
      ⟨g, mk, s₂, L, rfl, rfl, hqc, rfl, hL, rfl, rfl⟩, ?_⟩
    show Steps p.tables e below _ ((({ U with heap := s₂.heap, slotsUsed := s₂.slotsUsed } : State).setVm s₂.vm).setTop { g with pc := g.pc + len₂, stack := v.toList ++ g.stack })
    rw [← hs₂]
    exact hsteps
  · obtain ⟨e2, q2, q3, q4, q5, q6⟩ := id hsm
    have e3 : s₂ = ({ (U.calling g mk a).setFrames s₂.frames with heap := s₂.heap, slotsUsed := s₂.slotsUsed } : State).setVm s₂.vm := by
      have : s₂ = ({ s₂ with vm := (U.calling g mk a).vm } : State).setVm s₂.vm := rfl
      rw [e2] at this
      exact this
    have hf₂ : s₂.frames = .throwing q :: .java g :: U.frames.tail := hend
    have hW' : U.WarmedH s₂.vm := hW₂
    have hs₂ : s₂ = ((({ U with heap := s₂.heap, slotsUsed := s₂.slotsUsed } : State).setVm s₂.vm).setTop g).pushFrame (.throwing q) := by
      refine e3.trans ?_
      rw [hf₂, State.calling_eq h.top, State.setFrames_setFrames, State.pushFrame, State.frames_setTop _ hr', State.setTop_of_frames _ hr', State.setFrames_setFrames, hr]
      rfl
    have hsame : U.sameButNew ({ U with heap := s₂.heap, slotsUsed := s₂.slotsUsed } : State) L mc ms := by
      refine ⟨?_, q2, q3, q4, q5, q6⟩
      obtain ⟨t, ht, -⟩ := State.frames_cons hr
      show ({ U with heap := s₂.heap, slotsUsed := s₂.slotsUsed } : State) = { U.setFrames U.frames with heap := s₂.heap, slotsUsed := s₂.slotsUsed }
      rw [State.setFrames_self ht]
    subst hg
    refine Or.inr ⟨q, ⟨(({ U with heap := s₂.heap, slotsUsed := s₂.slotsUsed } : State).setVm s₂.vm), Ls ++ L, c0 + mc, s0 + ms⟩,
      ⟨X.admits, X.cas, X.clock, X.frames, X.room, X.hears, X.method, X.code, (X.here.setHeapUsed s₂.heap s₂.slotsUsed).setVm hW'.alike, X.tail, State.WarmedH.trans X.warmed hW', X.limits, X.bytes, X.same.trans (hsame.setVm s.vm)⟩,
      ⟨g, mk, s₂, L, E, ce, rfl, rfl, hx, hce, hcv, hcl, rfl, hL, rfl, rfl⟩, ?_⟩
    show Steps p.tables e below _ (((({ U with heap := s₂.heap, slotsUsed := s₂.slotsUsed } : State).setVm s₂.vm).setTop g).pushFrame (.throwing q))
    rw [← hs₂]
    exact hsteps
end
variable {p : Program} {l : Launch} {e : Env} {R : Room} {s : State} {m : MethodId} {args : Array Value} {below : List Frame} {meth : Method} {c : Code} {T : State} {H : Heap} {locs : List Loc} {cells slots : Nat}
theorem vx_callVX (X : Stand p l e R s m args below meth c T locs cells slots) (hexec : p.tables.exec = Jvm.exec) {own C : String} {index : Nat} {y : MethodName} {bytes : ByteArray} {maxL : Nat} {ret : Option FieldType} {hh : List (Nat × Nat × Nat × Nat)}
    (hown : s.vm.findClass own = some m.cls) (hlink : (Cond.methodLink own index y).before args s = true) (hinst : (Cond.instanceMethod y).before args s = true) (hsel : (Cond.selects C y y).before args s = true)
    (hcode : (Cond.codeWith y bytes maxL ret hh).before args s = true) (hy : y.cls ≠ "java/lang/invoke/MethodHandle" ∧ y.cls ≠ "java/lang/invoke/VarHandle")
    {W9 : Nat} {Pre : Pt → Array Value → Prop} {Post : Pt → Array Value → Option Value → Pt → Prop} {PostX : Pt → Array Value → Addr → Pt → Prop} (hK : vx_Back l R p e below s args y 3 W9 Pre Post PostX)
    {b : Addr} {cellB : Cell} (hcell : T.heap[b]? = some cellB) (hobj : cellB.vm.isStatics = false) (hcls : s.vm.findClass C = some cellB.cls)
    {g : JFrame} (hg : g.method = m) (hsize : g.locals.size = c.maxLocals) {argsL rest : List Value} (hlen : ∀ sig, parseMethodDescriptor y.desc = some sig → argsL.length = sig.parameters.length)
    (hstack : g.stack = argsL.reverse ++ .ref b :: rest) (hW : 2 * g.monitorRoom + (rest.map fun v => v.category).sum ≤ W9) (hdg : decode c.code g.pc = .ok (.invokevirtual index, 3))
    (hpre : ∀ vm₁, s.WarmedH vm₁ → Pre ⟨T.setVm vm₁, locs, cells, slots⟩ (Value.ref b :: argsL).toArray) :
    (∃ (v : Option Value) (vm₁ : Vm) (B : Pt), s.WarmedH vm₁ ∧ Stand p l e R s m args below meth c B.U B.locs B.cells B.slots ∧ Post ⟨T.setVm vm₁, locs, cells, slots⟩ (Value.ref b :: argsL).toArray v B ∧
      ∀ target, Steps p.tables e below (B.U.setTop { g with pc := g.pc + 3, stack := v.toList ++ rest }) target → Steps p.tables e below (T.setTop g) target) ∨
    (∃ (q : Addr) (vm₁ : Vm) (B : Pt), s.WarmedH vm₁ ∧ Stand p l e R s m args below meth c B.U B.locs B.cells B.slots ∧ PostX ⟨T.setVm vm₁, locs, cells, slots⟩ (Value.ref b :: argsL).toArray q B ∧
      Steps p.tables e below (T.setTop g) ((B.U.setTop { g with stack := rest }).pushFrame (.throwing q))) := by
  obtain ⟨mk, methM, hnamed, hmethM, hstM, habM⟩ := Cond.instanceMethod_spec hinst
  obtain ⟨m8, methM', cM, hn8, hmethM', -, -, -, -, -, -, hsigM⟩ := Cond.codeWith_spec hcode
  cases Option.some.inj (hn8.symm.trans hnamed)
  cases hmethM.symm.trans hmethM'
  obtain ⟨c2, r2, m2, q1, q2, q3, q4, kP, hkP, hkPi⟩ := Cond.selects_spec hsel
  cases hcls.symm.trans q1
  cases (State.methodFound?_of_named hnamed hy).symm.trans q2
  cases hnamed.symm.trans q3
  have hselP : selectMethod e.platform s.vm cellB.cls mk = .method mk := by rw [Launch.admits_selectMethod X.admits]; exact q4
  obtain ⟨vm₁, X₁, hstep₁⟩ := X.invokevirtual hexec hown hlink hnamed hmethM hstM hkP hkPi hy (a := b) (cell := cellB) hcell
    (fun z h => by rw [h] at hobj; cases hobj) hselP hmethM habM hkP hkPi (g := g) hg (argsL := argsL) (rest := rest) (hlen _ hsigM) hstack hdg
  rcases hK m meth c ⟨T.setVm vm₁, locs, cells, slots⟩ { g with stack := rest } (.invokevirtual index) mk (Value.ref b :: argsL).toArray X₁ hg hsize hdg hW (X₁.named hnamed) (hpre vm₁ X₁.warmed) with ⟨v, B, X', hpost, hsteps⟩ | ⟨q, B, X', hpost, hsteps⟩
  · exact Or.inl ⟨v, vm₁, B, X₁.warmed, X', hpost, fun target h => hstep₁ _ fun acts => by rw [doInvoke_state]; exact hsteps.trans h⟩
  · exact Or.inr ⟨q, vm₁, B, X₁.warmed, X', hpost, hstep₁ _ fun acts => by rw [doInvoke_state]; exact hsteps⟩
theorem vx_callSX (X : Stand p l e R s m args below meth c T locs cells slots) (hexec : p.tables.exec = Jvm.exec) {own : String} {index : Nat} {y : MethodName} {bytes : ByteArray} {maxL : Nat} {ret : Option FieldType} {hh : List (Nat × Nat × Nat × Nat)}
    (hown : s.vm.findClass own = some m.cls) (hlink : (Cond.methodLink own index y).before args s = true) (hstat : (Cond.static y).before args s = true) (hinit : (Cond.initialized y.cls).before args s = true)
    (hcode : (Cond.codeWith y bytes maxL ret hh).before args s = true) (hy : y.cls ≠ "java/lang/invoke/MethodHandle" ∧ y.cls ≠ "java/lang/invoke/VarHandle")
    {W9 : Nat} {Pre : Pt → Array Value → Prop} {Post : Pt → Array Value → Option Value → Pt → Prop} {PostX : Pt → Array Value → Addr → Pt → Prop} (hK : vx_Back l R p e below s args y 3 W9 Pre Post PostX)
    {g : JFrame} (hg : g.method = m) (hsize : g.locals.size = c.maxLocals) {argsL rest : List Value} (hlen : ∀ sig, parseMethodDescriptor y.desc = some sig → argsL.length = sig.parameters.length)
    (hstack : g.stack = argsL.reverse ++ rest) (hW : 2 * g.monitorRoom + (rest.map fun v => v.category).sum ≤ W9) (hdg : decode c.code g.pc = .ok (.invokestatic index, 3))
    (hpre : ∀ vm₁, s.WarmedH vm₁ → Pre ⟨T.setVm vm₁, locs, cells, slots⟩ argsL.toArray) :
    (∃ (v : Option Value) (vm₁ : Vm) (B : Pt), s.WarmedH vm₁ ∧ Stand p l e R s m args below meth c B.U B.locs B.cells B.slots ∧ Post ⟨T.setVm vm₁, locs, cells, slots⟩ argsL.toArray v B ∧
      ∀ target, Steps p.tables e below (B.U.setTop { g with pc := g.pc + 3, stack := v.toList ++ rest }) target → Steps p.tables e below (T.setTop g) target) ∨
    (∃ (q : Addr) (vm₁ : Vm) (B : Pt), s.WarmedH vm₁ ∧ Stand p l e R s m args below meth c B.U B.locs B.cells B.slots ∧ PostX ⟨T.setVm vm₁, locs, cells, slots⟩ argsL.toArray q B ∧
      Steps p.tables e below (T.setTop g) ((B.U.setTop { g with stack := rest }).pushFrame (.throwing q))) := by
  obtain ⟨mk, methM, cM, hnamed, hmethM, -, -, -, -, -, -, hsigM⟩ := Cond.codeWith_spec hcode
  have hstatic : methM.isStatic = true := Cond.static_spec hnamed hmethM hstat
  obtain ⟨kP, hkP, -⟩ := className_of_methodNamed hnamed
  have hinitP : kP.init = .initialized := Cond.initialized_spec (findClass_of_methodNamed hnamed) hkP hinit
  obtain ⟨vm₁, X₁, hstep₁⟩ := X.invokestatic hexec hown hlink hnamed hmethM hstatic hkP hinitP hy (g := g) hg (argsL := argsL) (rest := rest) (hlen _ hsigM) hstack hdg
  rcases hK m meth c ⟨T.setVm vm₁, locs, cells, slots⟩ { g with stack := rest } (.invokestatic index) mk argsL.toArray X₁ hg hsize hdg hW (X₁.named hnamed) (hpre vm₁ X₁.warmed) with ⟨v, B, X', hpost, hsteps⟩ | ⟨q, B, X', hpost, hsteps⟩
  · exact Or.inl ⟨v, vm₁, B, X₁.warmed, X', hpost, fun target h => hstep₁ _ fun acts => by rw [doInvoke_state]; exact hsteps.trans h⟩
  · exact Or.inr ⟨q, vm₁, B, X₁.warmed, X', hpost, hstep₁ _ fun acts => by rw [doInvoke_state]; exact hsteps⟩
theorem vx_callVW (X : Stand p l e R s m args below meth c T locs cells slots) (hexec : p.tables.exec = Jvm.exec) {own C : String} {index : Nat} {y : MethodName} {bytes : ByteArray} {maxL : Nat} {ret : Option FieldType} {hh : List (Nat × Nat × Nat × Nat)}
    (hown : s.vm.findClass own = some m.cls) (hlink : (Cond.methodLink own index y).before args s = true) (hinst : (Cond.instanceMethod y).before args s = true) (hsel : (Cond.selects C y y).before args s = true)
    (hcode : (Cond.codeWith y bytes maxL ret hh).before args s = true) (hy : y.cls ≠ "java/lang/invoke/MethodHandle" ∧ y.cls ≠ "java/lang/invoke/VarHandle")
    {W9 : Nat} {Pre : Pt → Array Value → Prop} {Post : Pt → Array Value → Option Value → Pt → Prop} (hK : Back l R p e below s args y 3 W9 Pre Post)
    {b : Addr} {cellB : Cell} (hcell : T.heap[b]? = some cellB) (hobj : cellB.vm.isStatics = false) (hcls : s.vm.findClass C = some cellB.cls)
    {g : JFrame} (hg : g.method = m) (hsize : g.locals.size = c.maxLocals) {argsL rest : List Value} (hlen : ∀ sig, parseMethodDescriptor y.desc = some sig → argsL.length = sig.parameters.length)
    (hstack : g.stack = argsL.reverse ++ .ref b :: rest) (hW : 2 * g.monitorRoom + (rest.map fun v => v.category).sum ≤ W9) (hdg : decode c.code g.pc = .ok (.invokevirtual index, 3))
    (hpre : ∀ vm₁, s.WarmedH vm₁ → Pre ⟨T.setVm vm₁, locs, cells, slots⟩ (Value.ref b :: argsL).toArray) :
    ∃ (v : Option Value) (vm₁ : Vm) (B : Pt), s.WarmedH vm₁ ∧ Stand p l e R s m args below meth c B.U B.locs B.cells B.slots ∧ Post ⟨T.setVm vm₁, locs, cells, slots⟩ (Value.ref b :: argsL).toArray v B ∧
      ∀ target, Steps p.tables e below (B.U.setTop { g with pc := g.pc + 3, stack := v.toList ++ rest }) target → Steps p.tables e below (T.setTop g) target := by
  obtain ⟨mk, methM, hnamed, hmethM, hstM, habM⟩ := Cond.instanceMethod_spec hinst
  obtain ⟨m8, methM', cM, hn8, hmethM', -, -, -, -, -, -, hsigM⟩ := Cond.codeWith_spec hcode
  cases Option.some.inj (hn8.symm.trans hnamed)
  cases hmethM.symm.trans hmethM'
  obtain ⟨c2, r2, m2, q1, q2, q3, q4, kP, hkP, hkPi⟩ := Cond.selects_spec hsel
  cases hcls.symm.trans q1
  cases (State.methodFound?_of_named hnamed hy).symm.trans q2
  cases hnamed.symm.trans q3
  have hselP : selectMethod e.platform s.vm cellB.cls mk = .method mk := by rw [Launch.admits_selectMethod X.admits]; exact q4
  obtain ⟨vm₁, X₁, hstep₁⟩ := X.invokevirtual hexec hown hlink hnamed hmethM hstM hkP hkPi hy (a := b) (cell := cellB) hcell
    (fun z h => by rw [h] at hobj; cases hobj) hselP hmethM habM hkP hkPi (g := g) hg (argsL := argsL) (rest := rest) (hlen _ hsigM) hstack hdg
  obtain ⟨v, B, X', hpost, hsteps⟩ := hK m meth c ⟨T.setVm vm₁, locs, cells, slots⟩ { g with stack := rest } (.invokevirtual index) mk (Value.ref b :: argsL).toArray X₁ hg hsize hdg hW (X₁.named hnamed) (hpre vm₁ X₁.warmed)
  exact ⟨v, vm₁, B, X₁.warmed, X', hpost, fun target h => hstep₁ _ fun acts => by rw [doInvoke_state]; exact hsteps.trans h⟩
abbrev vx_CVW (R : Room) (s : State) (args : Array Value) (own C : String) (index : Nat) (y : MethodName) (bytes : ByteArray) (maxL : Nat) (ret : Option FieldType) (hh : List (Nat × Nat × Nat × Nat)) (ws : List Cond) (rm : Room) (mc ms n : Nat) : Prop :=
  (rm.cells = mc ∧ rm.slots = ms ∧ rm.frames + 1 ≤ R.frames ∧ 8 + (maxL + 11) + rm.locals ≤ R.locals ∧ (∀ w ∈ ws, ∀ (a' : Array Value) (U : State), s.WarmedH U.vm → w.before a' U = true) ∧ Cond.codeWith y bytes maxL ret hh ∈ ws) ∧
  (Cond.codeWith y bytes maxL ret hh).before args s = true ∧ (Cond.initialized y.cls).before args s = true ∧ (y.cls ≠ "java/lang/invoke/MethodHandle" ∧ y.cls ≠ "java/lang/invoke/VarHandle") ∧
  (∀ sig, parseMethodDescriptor y.desc = some sig → n = sig.parameters.length) ∧ (Cond.methodLink own index y).before args s = true ∧ (Cond.instanceMethod y).before args s = true ∧ (Cond.selects C y y).before args s = true
theorem vx_cwVW {own C : String} {index maxL mc ms : Nat} {y : MethodName} {bytes : ByteArray} {ret : Option FieldType} {hh : List (Nat × Nat × Nat × Nat)} {Ts ws ws' : List Cond} {rm : Room} (n : Nat) (ht : ∀ w ∈ Ts, w.before args s = true) (hT : GoodIn Ts (wsV own index C y ws)) (hw : ws = Cond.codeWith y bytes maxL ret hh :: ws') (hrc : rm.cells = mc) (hrs : rm.slots = ms)
    (hd : y.cls = C ∧ y.cls ≠ "java/lang/invoke/MethodHandle" ∧ y.cls ≠ "java/lang/invoke/VarHandle" ∧ (parseMethodDescriptor y.desc).map (fun d => d.parameters.length) = some n) (hR : rm.frames + 1 ≤ R.frames ∧ 8 + (maxL + 11) + rm.locals ≤ R.locals) :
    vx_CVW R s args own C index y bytes maxL ret hh ws rm mc ms n := by
  obtain ⟨hC, hd⟩ := hd
  subst hC
  have ok : ∀ w ∈ wsV own index y.cls y ws, w.before args s = true := fun w h => ht w (hT w h).1
  have hG : GoodIn Ts ws := fun w h => hT w (by unfold wsV; exact List.mem_append_right _ h)
  have hc : Cond.codeWith y bytes maxL ret hh ∈ ws := by rw [hw]; exact List.mem_cons_self
  refine ⟨⟨hrc, hrs, hR.1, hR.2, pay_in ht hG, hc⟩, ht _ (hG _ hc).1, ok _ (by simp [wsV]), ⟨hd.1, hd.2.1⟩, fun sig h => ?_, ok _ (by simp [wsV]), ok _ (by simp [wsV]), ok _ (by simp [wsV])⟩
  have h2 := hd.2.2
  rw [h] at h2
  exact (Option.some.inj h2).symm
theorem vx_runVW {y : MethodName} {bytes cc : ByteArray} {maxL nL mc ms n index : Nat} {ret : Option FieldType} {hh : List (Nat × Nat × Nat × Nat)} {ws : List Cond} {rm : Room} {Pc : Array Value → State → Prop} {Qc : Array Value → State → Outcome → State → Prop} {free : Addr → Prop} {Ts : List Cond} {own C : String} {b : Addr} {As rest : List Value} {g : JFrame}
    (S : CallFix p m c cc nL s args Ts own) (hM : Met l y ws rm Pc Qc mc ms free) (cw : vx_CVW R s args own C index y bytes maxL ret hh ws rm mc ms n) (hp : PreV s H C b Pc As)
    (hg : g.method = m) (hn : As.length = n) (hsize : g.locals.size = nL) (hstack : g.stack = As.reverse ++ .ref b :: rest) (hW : 2 * g.monitorRoom + (rest.map fun v => v.category).sum ≤ 8) (hdg : decode cc g.pc = .ok (.invokevirtual index, 3)) (hf : cells + mc ≤ R.cells ∧ slots + ms ≤ R.slots) :
    va_Run p l e R s m args below meth c H locs cells slots mc ms g rest (Qc (Value.ref b :: As).toArray) free := by
  obtain ⟨⟨hrc, hrs, hfr, hlo, hws, hcw⟩, hcode, hini, hy, hlen, hl, hin, hse⟩ := cw
  have hK : Back l R p e below s args y 3 8 (PreOf R mc ms Pc) (PostOf Qc mc ms free) := va_backW (hh := hh) (bytes := bytes) (maxL := maxL) (ret := ret) hM hp.1 hrc hrs hfr hlo hws hcw (fun a' U hW => word_at hW (Or.inl (by first | rfl | simp [Cond.onTables, Cond.keeps, Cond.steady])) hini)
  obtain ⟨hx, hb, hml, ho, -⟩ := S
  obtain ⟨-, ⟨cellB, hcB, hoB, hclB⟩, hPc⟩ := hp
  intro T hT X
  obtain ⟨v, vm₁, ⟨U', l2, c2, s2⟩, hW₁, X', ⟨g', mk, t, L, e1, e2, hq, h1, hL, h2, h3⟩, st⟩ := vx_callVW X hx (C := C) (hh := hh) (bytes := bytes) (maxL := maxL) (ret := ret) ho hl hin hse hcode hy hK (by rw [hT]; exact hcB) hoB hclB hg (hsize.trans hml.symm) (argsL := As) (rest := rest) (fun sig h => hn.trans (hlen sig h)) hstack hW (by rw [hb]; exact hdg)
    (fun vm₁ hW₁ => ⟨hf.1, hf.2, hPc (T.setVm vm₁) hT hW₁⟩)
  dsimp only [Pt.U, Pt.locs, Pt.cells, Pt.slots] at X' e1 e2 h1 h2 h3 st
  subst h1; subst h2; subst h3
  exact ⟨v, (T.setVm vm₁).calling g' mk (Value.ref b :: As).toArray, t, U', L, hT, X', hL, e1, e2, hq, st⟩
section
variable {y : MethodName} {bytes cc : ByteArray} {maxL nL mc ms n index : Nat} {ret : Option FieldType} {ws : List Cond} {rm : Room} {Pc : Array Value → State → Prop} {Qc : Array Value → State → Outcome → State → Prop} {XC : String → State → State → Prop} {free : Addr → Prop} {Ts : List Cond} {own C : String} {b : Addr} {As rest : List Value} {g : JFrame}
theorem vx_runVX {hh : List (Nat × Nat × Nat × Nat)} (S : CallFix p m c cc nL s args Ts own) (hM : vx_Met l y ws rm Pc Qc XC mc ms free) (cw : vx_CVW R s args own C index y bytes maxL ret hh ws rm mc ms n) (hp : PreV s H C b Pc As)
    (hg : g.method = m) (hn : As.length = n) (hsize : g.locals.size = nL) (hstack : g.stack = As.reverse ++ .ref b :: rest) (hW : 2 * g.monitorRoom + (rest.map fun v => v.category).sum ≤ 8) (hdg : decode cc g.pc = .ok (.invokevirtual index, 3)) (hf : cells + mc ≤ R.cells ∧ slots + ms ≤ R.slots) :
    vx_Run p l e R s m args below meth c H locs cells slots mc ms g rest (Qc (Value.ref b :: As).toArray) XC free := by
  obtain ⟨⟨hrc, hrs, hfr, hlo, hws, hcw⟩, hcode, hini, hy, hlen, hl, hin, hse⟩ := cw
  have hK : vx_Back l R p e below s args y 3 8 (PreOf R mc ms Pc) (PostOf Qc mc ms free) (vx_Post XC mc ms free) := vx_backW (hh := hh) (bytes := bytes) (maxL := maxL) (ret := ret) hM hp.1 hrc hrs hfr hlo hws hcw (fun a' U hW => word_at hW (Or.inl (by first | rfl | simp [Cond.onTables, Cond.keeps, Cond.steady])) hini)
  obtain ⟨hx, hb, hml, ho, -⟩ := S
  obtain ⟨-, ⟨cellB, hcB, hoB, hclB⟩, hPc⟩ := hp
  intro T hT X
  rcases vx_callVX X hx (C := C) (hh := hh) (bytes := bytes) (maxL := maxL) (ret := ret) ho hl hin hse hcode hy hK (by rw [hT]; exact hcB) hoB hclB hg (hsize.trans hml.symm) (argsL := As) (rest := rest) (fun sig h => hn.trans (hlen sig h)) hstack hW (by rw [hb]; exact hdg)
    (fun vm₁ hW₁ => ⟨hf.1, hf.2, hPc (T.setVm vm₁) hT hW₁⟩) with ⟨v, vm₁, ⟨U', l2, c2, s2⟩, hW₁, X', ⟨g', mk, t, L, e1, e2, hq, h1, hL, h2, h3⟩, st⟩ | ⟨q, vm₁, ⟨U', l2, c2, s2⟩, hW₁, X', ⟨g', mk, t, L, E, ce, e1, e2, hq, hce, hcv, hcl, h1, hL, h2, h3⟩, st⟩
  · dsimp only [Pt.U, Pt.locs, Pt.cells, Pt.slots] at X' e1 e2 h1 h2 h3 st
    subst h1; subst h2; subst h3
    exact Or.inl ⟨v, (T.setVm vm₁).calling g' mk (Value.ref b :: As).toArray, t, U', L, hT, X', hL, e1, e2, hq, st⟩
  · dsimp only [Pt.U, Pt.locs, Pt.cells, Pt.slots] at X' e1 e2 h1 h2 h3 st hcl
    subst h1; subst h2; subst h3
    exact Or.inr ⟨q, (T.setVm vm₁).calling g' mk (Value.ref b :: As).toArray, t, U', L, E, ce, hT, X', hL, e1, e2, hq, hce, hcv, vx_cls hW₁ hcl, st⟩
theorem vx_runSX {hh : List (Nat × Nat × Nat × Nat)} (S : CallFix p m c cc nL s args Ts own) (hM : vx_Met l y ws rm Pc Qc XC mc ms free) (cw : vx_CSW R s args own index y bytes maxL ret hh ws rm mc ms n) (hp : PreS s H Pc As)
    (hg : g.method = m) (hn : As.length = n) (hsize : g.locals.size = nL) (hstack : g.stack = As.reverse ++ rest) (hW : 2 * g.monitorRoom + (rest.map fun v => v.category).sum ≤ 8) (hdg : decode cc g.pc = .ok (.invokestatic index, 3)) (hf : cells + mc ≤ R.cells ∧ slots + ms ≤ R.slots) :
    vx_Run p l e R s m args below meth c H locs cells slots mc ms g rest (Qc As.toArray) XC free := by
  obtain ⟨⟨hrc, hrs, hfr, hlo, hws, hcw⟩, hcode, hini, hy, hlen, hl, hstt⟩ := cw
  have hK : vx_Back l R p e below s args y 3 8 (PreOf R mc ms Pc) (PostOf Qc mc ms free) (vx_Post XC mc ms free) := vx_backW (hh := hh) (bytes := bytes) (maxL := maxL) (ret := ret) hM hp.1 hrc hrs hfr hlo hws hcw (fun a' U hW => word_at hW (Or.inl (by first | rfl | simp [Cond.onTables, Cond.keeps, Cond.steady])) hini)
  obtain ⟨hx, hb, hml, ho, -⟩ := S
  intro T hT X
  rcases vx_callSX X hx (hh := hh) (bytes := bytes) (maxL := maxL) (ret := ret) ho hl hstt hini hcode hy hK hg (hsize.trans hml.symm) (argsL := As) (rest := rest) (fun sig h => hn.trans (hlen sig h)) hstack hW (by rw [hb]; exact hdg)
    (fun vm₁ hW₁ => ⟨hf.1, hf.2, hp.2 (T.setVm vm₁) hT hW₁⟩) with ⟨v, vm₁, ⟨U', l2, c2, s2⟩, hW₁, X', ⟨g', mk, t, L, e1, e2, hq, h1, hL, h2, h3⟩, st⟩ | ⟨q, vm₁, ⟨U', l2, c2, s2⟩, hW₁, X', ⟨g', mk, t, L, E, ce, e1, e2, hq, hce, hcv, hcl, h1, hL, h2, h3⟩, st⟩
  · dsimp only [Pt.U, Pt.locs, Pt.cells, Pt.slots] at X' e1 e2 h1 h2 h3 st
    subst h1; subst h2; subst h3
    exact Or.inl ⟨v, (T.setVm vm₁).calling g' mk As.toArray, t, U', L, hT, X', hL, e1, e2, hq, st⟩
  · dsimp only [Pt.U, Pt.locs, Pt.cells, Pt.slots] at X' e1 e2 h1 h2 h3 st hcl
    subst h1; subst h2; subst h3
    exact Or.inr ⟨q, (T.setVm vm₁).calling g' mk As.toArray, t, U', L, E, ce, hT, X', hL, e1, e2, hq, hce, hcv, vx_cls hW₁ hcl, st⟩
end
end VXH
theorem vx_ofWH {l : Launch} {y : MethodName} {ws ws' : List Cond} {rm : Room} {Pc : Array Value → State → Prop} {Qc : Array Value → State → Outcome → State → Prop} {XC : String → State → State → Prop} {mc ms : Nat} {free : Addr → Prop} {cc : ByteArray} {maxL : Nat} {ret : Option FieldType} {hh : List (Nat × Nat × Nat × Nat)}
    (hy : plainName y.cls = true) (hw : ws = Cond.codeWith y cc maxL ret hh :: ws')
    (body : ∀ p e s m args below meth c s₁, BodyLoose p l y (headSpec ws rm) cc maxL ret e s m args below meth c s₁ → c.maxLocals = maxL → Pc args s →
      W p l e (headSpec ws rm).room s m args below meth c s.heap [] 0 0 (vx_MQ below Qc XC args s mc ms free) (entryFrame m args maxL)) : vx_Met l y ws rm Pc Qc XC mc ms free := by
  refine MetFree.of_bodyS (code := cc) (maxLocals := maxL) (ret := ret) hy ?_ ?_
  · intro args s m h hn
    obtain ⟨m9, meth, c, hn9, h1, h2, h3, h4, -, h5, h6, -⟩ := Cond.codeWith_spec (atoms_spec (ws := ws) h _ (by rw [hw]; exact List.mem_cons_self))
    cases hn.symm.trans hn9
    exact ⟨meth, c, h1, h2, h3, h4, h5, h6⟩
  · intro p e s m args below meth c s₁ B hml hP _
    have hh0 : s₁.heap = s.heap := by rw [B.state]; rfl
    obtain ⟨t, a1, o, b1, b2, b3⟩ := body p e s m args below meth c s₁ B hml hP s₁ hh0 (Stand.of_body B)
    exact ⟨t, o, a1, b1, b2, b3⟩
/-! ===== END ===== -/
end
section
/-! ===== BEGIN printed: names, fields, word lists, decode rows ===== -/
def RX0 : String := "SearchKeeper$Acts"
def TX0 : u_T := fun k => match k with
  | 0 => ("SearchKeeper$Acts", "order", "[I", true)
  | 1 => ("SearchKeeper$Acts", "kinds", "[I", true)
  | 2 => ("SearchKeeper$Acts", "arePutOff", "[Z", true)
  | _ => ("SearchKeeper$Acts", "many", "I", false)
def tyX0 : Nat → FieldType := fun k => match k with
  | 0 => .array .int
  | 1 => .array .int
  | 2 => .array .boolean
  | _ => .int
abbrev wsX00 : List Cond := u_ws RX0 TX0 4
theorem nmX0 : ∀ a, a < 4 → ∀ b, b < 4 → a ≠ b → (TX0 a).2.1 ≠ (TX0 b).2.1 := by decide +kernel
theorem tyX0_ok : ∀ k, k < 4 → parseFieldDescriptor (TX0 k).2.2.1 = some (tyX0 k) := by decide +kernel
abbrev cX0_init : ByteArray := prog_2_method_1_code
def yX0_init : MethodName := ⟨RX0, "<init>", "()V"⟩
abbrev cX0_count : ByteArray := prog_2_method_2_code
def yX0_count : MethodName := ⟨RX0, "count", "()I"⟩
abbrev cX0_kindOf : ByteArray := prog_2_method_3_code
def yX0_kindOf : MethodName := ⟨RX0, "kindOf", "(I)I"⟩
abbrev cX0_add : ByteArray := prog_2_method_4_code
def yX0_add : MethodName := ⟨RX0, "add", "(II)V"⟩
abbrev cX0_firstReady : ByteArray := prog_2_method_5_code
def yX0_firstReady : MethodName := ⟨RX0, "firstReady", "()I"⟩
abbrev cX0_takeAway : ByteArray := prog_2_method_6_code
def yX0_takeAway : MethodName := ⟨RX0, "takeAway", "(I)V"⟩
abbrev cX0_putOff : ByteArray := prog_2_method_7_code
def yX0_putOff : MethodName := ⟨RX0, "putOff", "(I)V"⟩
abbrev cX0_endWork : ByteArray := prog_2_method_8_code
def yX0_endWork : MethodName := ⟨RX0, "endWork", "()V"⟩
def RX1 : String := "SearchKeeper$Crawl"
def TX1 : u_T := fun k => match k with
  | 0 => ("SearchKeeper$Crawl", "waiting", "[I", true)
  | 1 => ("SearchKeeper$Crawl", "isWaiting", "[Z", true)
  | 2 => ("SearchKeeper$Crawl", "wasMet", "[Z", true)
  | 3 => ("SearchKeeper$Crawl", "many", "I", false)
  | _ => ("SearchKeeper$Crawl", "goesOn", "Z", false)
def tyX1 : Nat → FieldType := fun k => match k with
  | 0 => .array .int
  | 1 => .array .boolean
  | 2 => .array .boolean
  | 3 => .int
  | _ => .boolean
abbrev wsX10 : List Cond := u_ws RX1 TX1 5
theorem nmX1 : ∀ a, a < 5 → ∀ b, b < 5 → a ≠ b → (TX1 a).2.1 ≠ (TX1 b).2.1 := by decide +kernel
theorem tyX1_ok : ∀ k, k < 5 → parseFieldDescriptor (TX1 k).2.2.1 = some (tyX1 k) := by decide +kernel
abbrev cX1_init : ByteArray := prog_3_method_1_code
def yX1_init : MethodName := ⟨RX1, "<init>", "()V"⟩
abbrev cX1_startAnew : ByteArray := prog_3_method_2_code
def yX1_startAnew : MethodName := ⟨RX1, "startAnew", "(I)V"⟩
abbrev cX1_letWait : ByteArray := prog_3_method_3_code
def yX1_letWait : MethodName := ⟨RX1, "letWait", "(I)V"⟩
abbrev cX1_takeFirst : ByteArray := prog_3_method_4_code
def yX1_takeFirst : MethodName := ⟨RX1, "takeFirst", "()I"⟩
abbrev cX1_meet : ByteArray := prog_3_method_5_code
def yX1_meet : MethodName := ⟨RX1, "meet", "(I)V"⟩
abbrev cX1_hasMet : ByteArray := prog_3_method_6_code
def yX1_hasMet : MethodName := ⟨RX1, "hasMet", "(I)Z"⟩
def RX2 : String := "SearchKeeper$Entries"
def TX2 : u_T := fun k => match k with
  | 0 => ("SearchKeeper$Entries", "tree", "LSearchKeeper$Tree;", true)
  | 1 => ("SearchKeeper$Entries", "roots", "LSearchKeeper$Roots;", true)
  | 2 => ("SearchKeeper$Entries", "areKept", "[Z", true)
  | 3 => ("SearchKeeper$Entries", "parents", "[I", true)
  | 4 => ("SearchKeeper$Entries", "names", "[C", true)
  | 5 => ("SearchKeeper$Entries", "editions", "[I", true)
  | 6 => ("SearchKeeper$Entries", "lengths", "[I", true)
  | 7 => ("SearchKeeper$Entries", "words", "[[I", true)
  | 8 => ("SearchKeeper$Entries", "gotEdition", "[Z", true)
  | _ => ("SearchKeeper$Entries", "areGoing", "[Z", true)
def tyX2 : Nat → FieldType := fun k => match k with
  | 0 => .object "SearchKeeper$Tree"
  | 1 => .object "SearchKeeper$Roots"
  | 2 => .array .boolean
  | 3 => .array .int
  | 4 => .array .char
  | 5 => .array .int
  | 6 => .array .int
  | 7 => .array (.array .int)
  | 8 => .array .boolean
  | _ => .array .boolean
abbrev wsX20 : List Cond := u_ws RX2 TX2 10
theorem nmX2 : ∀ a, a < 10 → ∀ b, b < 10 → a ≠ b → (TX2 a).2.1 ≠ (TX2 b).2.1 := by decide +kernel
theorem tyX2_ok : ∀ k, k < 10 → parseFieldDescriptor (TX2 k).2.2.1 = some (tyX2 k) := by decide +kernel
abbrev cX2_init : ByteArray := prog_4_method_1_code
def yX2_init : MethodName := ⟨RX2, "<init>", "(LSearchKeeper$Tree;LSearchKeeper$Roots;)V"⟩
abbrev cX2_has : ByteArray := prog_4_method_2_code
def yX2_has : MethodName := ⟨RX2, "has", "(I)Z"⟩
abbrev cX2_editionOf : ByteArray := prog_4_method_3_code
def yX2_editionOf : MethodName := ⟨RX2, "editionOf", "(I)I"⟩
abbrev cX2_lengthOf : ByteArray := prog_4_method_4_code
def yX2_lengthOf : MethodName := ⟨RX2, "lengthOf", "(I)I"⟩
abbrev cX2_wordsOf : ByteArray := prog_4_method_5_code
def yX2_wordsOf : MethodName := ⟨RX2, "wordsOf", "(I)[I"⟩
abbrev cX2_count : ByteArray := prog_4_method_6_code
def yX2_count : MethodName := ⟨RX2, "count", "()I"⟩
abbrev cX2_isBehind : ByteArray := prog_4_method_7_code
def yX2_isBehind : MethodName := ⟨RX2, "isBehind", "(I)Z"⟩
abbrev cX2_countStale : ByteArray := prog_4_method_8_code
def yX2_countStale : MethodName := ⟨RX2, "countStale", "()I"⟩
abbrev cX2_isBelow : ByteArray := prog_4_method_9_code
def yX2_isBelow : MethodName := ⟨RX2, "isBelow", "(II)Z"⟩
abbrev cX2_keepPlace : ByteArray := prog_4_method_10_code
def yX2_keepPlace : MethodName := ⟨RX2, "keepPlace", "(I)V"⟩
abbrev cX2_keepEdition : ByteArray := prog_4_method_11_code
def yX2_keepEdition : MethodName := ⟨RX2, "keepEdition", "(II)V"⟩
abbrev cX2_takeAway : ByteArray := prog_4_method_12_code
def yX2_takeAway : MethodName := ⟨RX2, "takeAway", "(I)V"⟩
abbrev cX2_hasGotEdition : ByteArray := prog_4_method_13_code
def yX2_hasGotEdition : MethodName := ⟨RX2, "hasGotEdition", "(I)Z"⟩
abbrev cX2_endWork : ByteArray := prog_4_method_14_code
def yX2_endWork : MethodName := ⟨RX2, "endWork", "()V"⟩
def RX3 : String := "SearchKeeper$Index"
def TX3 : u_T := fun k => match k with
  | 0 => ("SearchKeeper$Index", "homes", "[I", true)
  | 1 => ("SearchKeeper$Index", "alive", "[I", true)
  | 2 => ("SearchKeeper$Index", "buried", "[I", true)
  | _ => ("SearchKeeper$Index", "many", "I", false)
def tyX3 : Nat → FieldType := fun k => match k with
  | 0 => .array .int
  | 1 => .array .int
  | 2 => .array .int
  | _ => .int
abbrev wsX30 : List Cond := u_ws RX3 TX3 4
theorem nmX3 : ∀ a, a < 4 → ∀ b, b < 4 → a ≠ b → (TX3 a).2.1 ≠ (TX3 b).2.1 := by decide +kernel
theorem tyX3_ok : ∀ k, k < 4 → parseFieldDescriptor (TX3 k).2.2.1 = some (tyX3 k) := by decide +kernel
abbrev cX3_init : ByteArray := prog_5_method_1_code
def yX3_init : MethodName := ⟨RX3, "<init>", "()V"⟩
abbrev cX3_count : ByteArray := prog_5_method_2_code
def yX3_count : MethodName := ⟨RX3, "count", "()I"⟩
abbrev cX3_countBuried : ByteArray := prog_5_method_3_code
def yX3_countBuried : MethodName := ⟨RX3, "countBuried", "()I"⟩
abbrev cX3_endWork : ByteArray := prog_5_method_4_code
def yX3_endWork : MethodName := ⟨RX3, "endWork", "(LSearchKeeper$Entries;)V"⟩
abbrev cX3_bury : ByteArray := prog_5_method_5_code
def yX3_bury : MethodName := ⟨RX3, "bury", "(I)V"⟩
abbrev cX3_addSegment : ByteArray := prog_5_method_6_code
def yX3_addSegment : MethodName := ⟨RX3, "addSegment", "(LSearchKeeper$Entries;)V"⟩
abbrev cX3_close : ByteArray := prog_5_method_7_code
def yX3_close : MethodName := ⟨RX3, "close", "(I)V"⟩
abbrev cX3_smallestPair : ByteArray := prog_5_method_8_code
def yX3_smallestPair : MethodName := ⟨RX3, "smallestPair", "()I"⟩
abbrev cX3_joinWithNext : ByteArray := prog_5_method_9_code
def yX3_joinWithNext : MethodName := ⟨RX3, "joinWithNext", "(I)V"⟩
def RX4 : String := "SearchKeeper$Keeper"
def TX4 : u_T := fun k => match k with
  | 0 => ("SearchKeeper$Keeper", "tree", "LSearchKeeper$Tree;", true)
  | 1 => ("SearchKeeper$Keeper", "roots", "LSearchKeeper$Roots;", true)
  | 2 => ("SearchKeeper$Keeper", "reader", "LSearchKeeper$Reader;", true)
  | 3 => ("SearchKeeper$Keeper", "known", "LSearchKeeper$Entries;", true)
  | 4 => ("SearchKeeper$Keeper", "list", "LSearchKeeper$Acts;", true)
  | _ => ("SearchKeeper$Keeper", "index", "LSearchKeeper$Index;", true)
def tyX4 : Nat → FieldType := fun k => match k with
  | 0 => .object "SearchKeeper$Tree"
  | 1 => .object "SearchKeeper$Roots"
  | 2 => .object "SearchKeeper$Reader"
  | 3 => .object "SearchKeeper$Entries"
  | 4 => .object "SearchKeeper$Acts"
  | _ => .object "SearchKeeper$Index"
abbrev wsX40 : List Cond := u_ws RX4 TX4 6
theorem nmX4 : ∀ a, a < 6 → ∀ b, b < 6 → a ≠ b → (TX4 a).2.1 ≠ (TX4 b).2.1 := by decide +kernel
theorem tyX4_ok : ∀ k, k < 6 → parseFieldDescriptor (TX4 k).2.2.1 = some (tyX4 k) := by decide +kernel
abbrev cX4_init : ByteArray := prog_6_method_1_code
def yX4_init : MethodName := ⟨RX4, "<init>", "(LSearchKeeper$Tree;LSearchKeeper$Roots;LSearchKeeper$Reader;LSearchKeeper$Entries;)V"⟩
abbrev cX4_countActs : ByteArray := prog_6_method_2_code
def yX4_countActs : MethodName := ⟨RX4, "countActs", "()I"⟩
abbrev cX4_countSegments : ByteArray := prog_6_method_3_code
def yX4_countSegments : MethodName := ⟨RX4, "countSegments", "()I"⟩
abbrev cX4_countDead : ByteArray := prog_6_method_4_code
def yX4_countDead : MethodName := ⟨RX4, "countDead", "()I"⟩
abbrev cX4_lookAtAllEntries : ByteArray := prog_6_method_5_code
def yX4_lookAtAllEntries : MethodName := ⟨RX4, "lookAtAllEntries", "()V"⟩
abbrev cX4_doSteps : ByteArray := prog_6_method_6_code
def yX4_doSteps : MethodName := ⟨RX4, "doSteps", "(I)I"⟩
abbrev cX4_doNext : ByteArray := prog_6_method_7_code
def yX4_doNext : MethodName := ⟨RX4, "doNext", "(I)I"⟩
abbrev cX4_hear : ByteArray := prog_6_method_8_code
def yX4_hear : MethodName := ⟨RX4, "hear", "(LSearchKeeper$Root;)V"⟩
abbrev cX4_act : ByteArray := prog_6_method_9_code
def yX4_act : MethodName := ⟨RX4, "act", "(II)I"⟩
abbrev cX4_lookAtFile : ByteArray := prog_6_method_10_code
def yX4_lookAtFile : MethodName := ⟨RX4, "lookAtFile", "(II)I"⟩
abbrev cX4_lookAtFolder : ByteArray := prog_6_method_11_code
def yX4_lookAtFolder : MethodName := ⟨RX4, "lookAtFolder", "(I)V"⟩
abbrev cX4_crawlOn : ByteArray := prog_6_method_12_code
def yX4_crawlOn : MethodName := ⟨RX4, "crawlOn", "(LSearchKeeper$Root;)V"⟩
abbrev cX4_meetAllIn : ByteArray := prog_6_method_13_code
def yX4_meetAllIn : MethodName := ⟨RX4, "meetAllIn", "(ILSearchKeeper$Crawl;)V"⟩
abbrev cX4_lookAtUnmet : ByteArray := prog_6_method_14_code
def yX4_lookAtUnmet : MethodName := ⟨RX4, "lookAtUnmet", "(LSearchKeeper$Crawl;)V"⟩
def RX5 : String := "SearchKeeper$Questions"
def TX5 : u_T := fun k => match k with
  | 0 => ("SearchKeeper$Questions", "tree", "LSearchKeeper$Tree;", true)
  | 1 => ("SearchKeeper$Questions", "roots", "LSearchKeeper$Roots;", true)
  | 2 => ("SearchKeeper$Questions", "reader", "LSearchKeeper$Reader;", true)
  | 3 => ("SearchKeeper$Questions", "known", "LSearchKeeper$Entries;", true)
  | 4 => ("SearchKeeper$Questions", "scores", "[I", true)
  | _ => ("SearchKeeper$Questions", "fresh", "[I", true)
def tyX5 : Nat → FieldType := fun k => match k with
  | 0 => .object "SearchKeeper$Tree"
  | 1 => .object "SearchKeeper$Roots"
  | 2 => .object "SearchKeeper$Reader"
  | 3 => .object "SearchKeeper$Entries"
  | 4 => .array .int
  | _ => .array .int
abbrev wsX50 : List Cond := u_ws RX5 TX5 6
theorem nmX5 : ∀ a, a < 6 → ∀ b, b < 6 → a ≠ b → (TX5 a).2.1 ≠ (TX5 b).2.1 := by decide +kernel
theorem tyX5_ok : ∀ k, k < 6 → parseFieldDescriptor (TX5 k).2.2.1 = some (tyX5 k) := by decide +kernel
abbrev cX5_init : ByteArray := prog_7_method_1_code
def yX5_init : MethodName := ⟨RX5, "<init>", "(LSearchKeeper$Tree;LSearchKeeper$Roots;LSearchKeeper$Reader;LSearchKeeper$Entries;)V"⟩
abbrev cX5_count : ByteArray := prog_7_method_2_code
def yX5_count : MethodName := ⟨RX5, "count", "(IIII)I"⟩
abbrev cX5_countAnew : ByteArray := prog_7_method_3_code
def yX5_countAnew : MethodName := ⟨RX5, "countAnew", "(IIII)I"⟩
abbrev cX5_fileAt : ByteArray := prog_7_method_4_code
def yX5_fileAt : MethodName := ⟨RX5, "fileAt", "(IIII)I"⟩
abbrev cX5_closestPlaces : ByteArray := prog_7_method_5_code
def yX5_closestPlaces : MethodName := ⟨RX5, "closestPlaces", "(III)I"⟩
abbrev cX5_countAhead : ByteArray := prog_7_method_6_code
def yX5_countAhead : MethodName := ⟨RX5, "countAhead", "(I)I"⟩
abbrev cX5_isWithinNow : ByteArray := prog_7_method_7_code
def yX5_isWithinNow : MethodName := ⟨RX5, "isWithinNow", "(II)Z"⟩
abbrev cX5_scoreOf : ByteArray := prog_7_method_8_code
def yX5_scoreOf : MethodName := ⟨RX5, "scoreOf", "(IIII)I"⟩
abbrev cX5_score : ByteArray := prog_7_method_9_code
def yX5_score : MethodName := ⟨RX5, "score", "([IIII)I"⟩
def RX6 : String := "SearchKeeper$Reader"
def TX6 : u_T := fun k => match k with
  | 0 => ("SearchKeeper$Reader", "depthLimit", "I", false)
  | _ => ("SearchKeeper$Reader", "wordLimit", "I", false)
def tyX6 : Nat → FieldType := fun k => match k with
  | 0 => .int
  | _ => .int
abbrev wsX60 : List Cond := u_ws RX6 TX6 2
theorem nmX6 : ∀ a, a < 2 → ∀ b, b < 2 → a ≠ b → (TX6 a).2.1 ≠ (TX6 b).2.1 := by decide +kernel
theorem tyX6_ok : ∀ k, k < 2 → parseFieldDescriptor (TX6 k).2.2.1 = some (tyX6 k) := by decide +kernel
abbrev cX6_init : ByteArray := prog_8_method_1_code
def yX6_init : MethodName := ⟨RX6, "<init>", "()V"⟩
abbrev cX6_takeWords : ByteArray := prog_8_method_2_code
def yX6_takeWords : MethodName := ⟨RX6, "takeWords", "([II[I)I"⟩
abbrev cX6_endOfWhole : ByteArray := prog_8_method_3_code
def yX6_endOfWhole : MethodName := ⟨RX6, "endOfWhole", "([II)I"⟩
def RX7 : String := "SearchKeeper$Root"
def TX7 : u_T := fun k => match k with
  | 0 => ("SearchKeeper$Root", "kinds", "[I", true)
  | 1 => ("SearchKeeper$Root", "nodes", "[I", true)
  | 2 => ("SearchKeeper$Root", "crawl", "LSearchKeeper$Crawl;", true)
  | 3 => ("SearchKeeper$Root", "folder", "I", false)
  | 4 => ("SearchKeeper$Root", "many", "I", false)
  | _ => ("SearchKeeper$Root", "isFlooded", "Z", false)
def tyX7 : Nat → FieldType := fun k => match k with
  | 0 => .array .int
  | 1 => .array .int
  | 2 => .object "SearchKeeper$Crawl"
  | 3 => .int
  | 4 => .int
  | _ => .boolean
abbrev wsX70 : List Cond := u_ws RX7 TX7 6
theorem nmX7 : ∀ a, a < 6 → ∀ b, b < 6 → a ≠ b → (TX7 a).2.1 ≠ (TX7 b).2.1 := by decide +kernel
theorem tyX7_ok : ∀ k, k < 6 → parseFieldDescriptor (TX7 k).2.2.1 = some (tyX7 k) := by decide +kernel
abbrev cX7_init : ByteArray := prog_9_method_1_code
def yX7_init : MethodName := ⟨RX7, "<init>", "()V"⟩
abbrev cX7_startAt : ByteArray := prog_9_method_2_code
def yX7_startAt : MethodName := ⟨RX7, "startAt", "(I)V"⟩
abbrev cX7_beginCrawl : ByteArray := prog_9_method_3_code
def yX7_beginCrawl : MethodName := ⟨RX7, "beginCrawl", "()V"⟩
abbrev cX7_tell : ByteArray := prog_9_method_4_code
def yX7_tell : MethodName := ⟨RX7, "tell", "(II)V"⟩
abbrev cX7_tellLastAgain : ByteArray := prog_9_method_5_code
def yX7_tellLastAgain : MethodName := ⟨RX7, "tellLastAgain", "()V"⟩
abbrev cX7_hasNotices : ByteArray := prog_9_method_6_code
def yX7_hasNotices : MethodName := ⟨RX7, "hasNotices", "()Z"⟩
abbrev cX7_countOrFlood : ByteArray := prog_9_method_7_code
def yX7_countOrFlood : MethodName := ⟨RX7, "countOrFlood", "()I"⟩
abbrev cX7_forgetLast : ByteArray := prog_9_method_8_code
def yX7_forgetLast : MethodName := ⟨RX7, "forgetLast", "(I)I"⟩
abbrev cX7_takeFirst : ByteArray := prog_9_method_9_code
def yX7_takeFirst : MethodName := ⟨RX7, "takeFirst", "()V"⟩
def RX8 : String := "SearchKeeper$Roots"
def TX8 : u_T := fun k => match k with
  | 0 => ("SearchKeeper$Roots", "tree", "LSearchKeeper$Tree;", true)
  | 1 => ("SearchKeeper$Roots", "rows", "[LSearchKeeper$Root;", true)
  | _ => ("SearchKeeper$Roots", "many", "I", false)
def tyX8 : Nat → FieldType := fun k => match k with
  | 0 => .object "SearchKeeper$Tree"
  | 1 => .array (.object "SearchKeeper$Root")
  | _ => .int
abbrev wsX80 : List Cond := u_ws RX8 TX8 3
theorem nmX8 : ∀ a, a < 3 → ∀ b, b < 3 → a ≠ b → (TX8 a).2.1 ≠ (TX8 b).2.1 := by decide +kernel
theorem tyX8_ok : ∀ k, k < 3 → parseFieldDescriptor (TX8 k).2.2.1 = some (tyX8 k) := by decide +kernel
abbrev cX8_init : ByteArray := prog_10_method_1_code
def yX8_init : MethodName := ⟨RX8, "<init>", "(LSearchKeeper$Tree;)V"⟩
abbrev cX8_count : ByteArray := prog_10_method_2_code
def yX8_count : MethodName := ⟨RX8, "count", "()I"⟩
abbrev cX8_isFull : ByteArray := prog_10_method_3_code
def yX8_isFull : MethodName := ⟨RX8, "isFull", "()Z"⟩
abbrev cX8_find : ByteArray := prog_10_method_4_code
def yX8_find : MethodName := ⟨RX8, "find", "(I)LSearchKeeper$Root;"⟩
abbrev cX8_holding : ByteArray := prog_10_method_5_code
def yX8_holding : MethodName := ⟨RX8, "holding", "(I)LSearchKeeper$Root;"⟩
abbrev cX8_above : ByteArray := prog_10_method_6_code
def yX8_above : MethodName := ⟨RX8, "above", "(I)LSearchKeeper$Root;"⟩
abbrev cX8_hasAtOrBelow : ByteArray := prog_10_method_7_code
def yX8_hasAtOrBelow : MethodName := ⟨RX8, "hasAtOrBelow", "(I)Z"⟩
abbrev cX8_firstNoisy : ByteArray := prog_10_method_8_code
def yX8_firstNoisy : MethodName := ⟨RX8, "firstNoisy", "()LSearchKeeper$Root;"⟩
abbrev cX8_firstCrawled : ByteArray := prog_10_method_9_code
def yX8_firstCrawled : MethodName := ⟨RX8, "firstCrawled", "()LSearchKeeper$Root;"⟩
abbrev cX8_countCrawls : ByteArray := prog_10_method_10_code
def yX8_countCrawls : MethodName := ⟨RX8, "countCrawls", "()I"⟩
abbrev cX8_tellAbove : ByteArray := prog_10_method_11_code
def yX8_tellAbove : MethodName := ⟨RX8, "tellAbove", "(II)V"⟩
abbrev cX8_add : ByteArray := prog_10_method_12_code
def yX8_add : MethodName := ⟨RX8, "add", "(I)V"⟩
abbrev cX8_end : ByteArray := prog_10_method_13_code
def yX8_end : MethodName := ⟨RX8, "end", "(I)V"⟩
abbrev cX8_endGone : ByteArray := prog_10_method_14_code
def yX8_endGone : MethodName := ⟨RX8, "endGone", "()Z"⟩
def RX9 : String := "SearchKeeper$Tree"
def TX9 : u_T := fun k => match k with
  | 0 => ("SearchKeeper$Tree", "parents", "[I", true)
  | 1 => ("SearchKeeper$Tree", "names", "[C", true)
  | 2 => ("SearchKeeper$Tree", "areFolders", "[Z", true)
  | 3 => ("SearchKeeper$Tree", "areThere", "[Z", true)
  | 4 => ("SearchKeeper$Tree", "areLocked", "[Z", true)
  | 5 => ("SearchKeeper$Tree", "sets", "[I", true)
  | 6 => ("SearchKeeper$Tree", "editions", "[I", true)
  | 7 => ("SearchKeeper$Tree", "lengths", "[I", true)
  | 8 => ("SearchKeeper$Tree", "texts", "[[I", true)
  | _ => ("SearchKeeper$Tree", "made", "I", false)
def tyX9 : Nat → FieldType := fun k => match k with
  | 0 => .array .int
  | 1 => .array .char
  | 2 => .array .boolean
  | 3 => .array .boolean
  | 4 => .array .boolean
  | 5 => .array .int
  | 6 => .array .int
  | 7 => .array .int
  | 8 => .array (.array .int)
  | _ => .int
abbrev wsX90 : List Cond := u_ws RX9 TX9 10
theorem nmX9 : ∀ a, a < 10 → ∀ b, b < 10 → a ≠ b → (TX9 a).2.1 ≠ (TX9 b).2.1 := by decide +kernel
theorem tyX9_ok : ∀ k, k < 10 → parseFieldDescriptor (TX9 k).2.2.1 = some (tyX9 k) := by decide +kernel
abbrev cX9_init : ByteArray := prog_11_method_1_code
def yX9_init : MethodName := ⟨RX9, "<init>", "()V"⟩
abbrev cX9_wasMade : ByteArray := prog_11_method_2_code
def yX9_wasMade : MethodName := ⟨RX9, "wasMade", "(I)Z"⟩
abbrev cX9_isThere : ByteArray := prog_11_method_3_code
def yX9_isThere : MethodName := ⟨RX9, "isThere", "(I)Z"⟩
abbrev cX9_isFolder : ByteArray := prog_11_method_4_code
def yX9_isFolder : MethodName := ⟨RX9, "isFolder", "(I)Z"⟩
abbrev cX9_isFile : ByteArray := prog_11_method_5_code
def yX9_isFile : MethodName := ⟨RX9, "isFile", "(I)Z"⟩
abbrev cX9_isLocked : ByteArray := prog_11_method_6_code
def yX9_isLocked : MethodName := ⟨RX9, "isLocked", "(I)Z"⟩
abbrev cX9_isFull : ByteArray := prog_11_method_7_code
def yX9_isFull : MethodName := ⟨RX9, "isFull", "()Z"⟩
abbrev cX9_parentOf : ByteArray := prog_11_method_8_code
def yX9_parentOf : MethodName := ⟨RX9, "parentOf", "(I)I"⟩
abbrev cX9_nameOf : ByteArray := prog_11_method_9_code
def yX9_nameOf : MethodName := ⟨RX9, "nameOf", "(I)C"⟩
abbrev cX9_peopleOf : ByteArray := prog_11_method_10_code
def yX9_peopleOf : MethodName := ⟨RX9, "peopleOf", "(I)I"⟩
abbrev cX9_editionOf : ByteArray := prog_11_method_11_code
def yX9_editionOf : MethodName := ⟨RX9, "editionOf", "(I)I"⟩
abbrev cX9_lengthOf : ByteArray := prog_11_method_12_code
def yX9_lengthOf : MethodName := ⟨RX9, "lengthOf", "(I)I"⟩
abbrev cX9_textOf : ByteArray := prog_11_method_13_code
def yX9_textOf : MethodName := ⟨RX9, "textOf", "(I)[I"⟩
abbrev cX9_findIn : ByteArray := prog_11_method_14_code
def yX9_findIn : MethodName := ⟨RX9, "findIn", "(IC)I"⟩
abbrev cX9_isBelow : ByteArray := prog_11_method_15_code
def yX9_isBelow : MethodName := ⟨RX9, "isBelow", "(II)Z"⟩
abbrev cX9_isOpenTo : ByteArray := prog_11_method_16_code
def yX9_isOpenTo : MethodName := ⟨RX9, "isOpenTo", "(II)Z"⟩
abbrev cX9_countThere : ByteArray := prog_11_method_17_code
def yX9_countThere : MethodName := ⟨RX9, "countThere", "()I"⟩
abbrev cX9_add : ByteArray := prog_11_method_18_code
def yX9_add : MethodName := ⟨RX9, "add", "(ICZ)I"⟩
abbrev cX9_put : ByteArray := prog_11_method_19_code
def yX9_put : MethodName := ⟨RX9, "put", "(IIC)V"⟩
abbrev cX9_append : ByteArray := prog_11_method_20_code
def yX9_append : MethodName := ⟨RX9, "append", "(II)V"⟩
abbrev cX9_clearText : ByteArray := prog_11_method_21_code
def yX9_clearText : MethodName := ⟨RX9, "clearText", "(I)V"⟩
abbrev cX9_setLocked : ByteArray := prog_11_method_22_code
def yX9_setLocked : MethodName := ⟨RX9, "setLocked", "(IZ)V"⟩
abbrev cX9_setPeople : ByteArray := prog_11_method_23_code
def yX9_setPeople : MethodName := ⟨RX9, "setPeople", "(II)V"⟩
abbrev cX9_takeAway : ByteArray := prog_11_method_24_code
def yX9_takeAway : MethodName := ⟨RX9, "takeAway", "(I)I"⟩
def RX10 : String := "SearchKeeper"
def TX10 : u_T := fun k => match k with
  | 0 => ("SearchKeeper", "tree", "LSearchKeeper$Tree;", true)
  | 1 => ("SearchKeeper", "roots", "LSearchKeeper$Roots;", true)
  | 2 => ("SearchKeeper", "reader", "LSearchKeeper$Reader;", true)
  | 3 => ("SearchKeeper", "known", "LSearchKeeper$Entries;", true)
  | 4 => ("SearchKeeper", "keeper", "LSearchKeeper$Keeper;", true)
  | 5 => ("SearchKeeper", "questions", "LSearchKeeper$Questions;", true)
  | 6 => ("SearchKeeper", "minute", "I", false)
  | 7 => ("SearchKeeper", "isOnBattery", "Z", false)
  | _ => ("SearchKeeper", "batterySteps", "I", false)
def tyX10 : Nat → FieldType := fun k => match k with
  | 0 => .object "SearchKeeper$Tree"
  | 1 => .object "SearchKeeper$Roots"
  | 2 => .object "SearchKeeper$Reader"
  | 3 => .object "SearchKeeper$Entries"
  | 4 => .object "SearchKeeper$Keeper"
  | 5 => .object "SearchKeeper$Questions"
  | 6 => .int
  | 7 => .boolean
  | _ => .int
abbrev wsX100 : List Cond := u_ws RX10 TX10 9
theorem nmX10 : ∀ a, a < 9 → ∀ b, b < 9 → a ≠ b → (TX10 a).2.1 ≠ (TX10 b).2.1 := by decide +kernel
theorem tyX10_ok : ∀ k, k < 9 → parseFieldDescriptor (TX10 k).2.2.1 = some (tyX10 k) := by decide +kernel
abbrev cX10_init : ByteArray := prog_1_method_1_code
def yX10_init : MethodName := ⟨RX10, "<init>", "()V"⟩
abbrev cX10_make : ByteArray := prog_1_method_2_code
def yX10_make : MethodName := ⟨RX10, "make", "(ICZ)I"⟩
abbrev cX10_write : ByteArray := prog_1_method_3_code
def yX10_write : MethodName := ⟨RX10, "write", "(II)I"⟩
abbrev cX10_empty : ByteArray := prog_1_method_4_code
def yX10_empty : MethodName := ⟨RX10, "empty", "(I)I"⟩
abbrev cX10_move : ByteArray := prog_1_method_5_code
def yX10_move : MethodName := ⟨RX10, "move", "(IIC)I"⟩
abbrev cX10_remove : ByteArray := prog_1_method_6_code
def yX10_remove : MethodName := ⟨RX10, "remove", "(I)I"⟩
abbrev cX10_lock : ByteArray := prog_1_method_7_code
def yX10_lock : MethodName := ⟨RX10, "lock", "(IZ)Z"⟩
abbrev cX10_people : ByteArray := prog_1_method_8_code
def yX10_people : MethodName := ⟨RX10, "people", "(II)I"⟩
abbrev cX10_mayRead : ByteArray := prog_1_method_9_code
def yX10_mayRead : MethodName := ⟨RX10, "mayRead", "(II)Z"⟩
abbrev cX10_nodes : ByteArray := prog_1_method_10_code
def yX10_nodes : MethodName := ⟨RX10, "nodes", "()I"⟩
abbrev cX10_watch : ByteArray := prog_1_method_11_code
def yX10_watch : MethodName := ⟨RX10, "watch", "(I)I"⟩
abbrev cX10_notices : ByteArray := prog_1_method_12_code
def yX10_notices : MethodName := ⟨RX10, "notices", "(I)I"⟩
abbrev cX10_twice : ByteArray := prog_1_method_13_code
def yX10_twice : MethodName := ⟨RX10, "twice", "(I)I"⟩
abbrev cX10_lose : ByteArray := prog_1_method_14_code
def yX10_lose : MethodName := ⟨RX10, "lose", "(II)I"⟩
abbrev cX10_pass : ByteArray := prog_1_method_15_code
def yX10_pass : MethodName := ⟨RX10, "pass", "(I)I"⟩
abbrev cX10_battery : ByteArray := prog_1_method_16_code
def yX10_battery : MethodName := ⟨RX10, "battery", "(Z)Z"⟩
abbrev cX10_limits : ByteArray := prog_1_method_17_code
def yX10_limits : MethodName := ⟨RX10, "limits", "(II)I"⟩
abbrev cX10_work : ByteArray := prog_1_method_18_code
def yX10_work : MethodName := ⟨RX10, "work", "(I)I"⟩
abbrev cX10_crawl : ByteArray := prog_1_method_19_code
def yX10_crawl : MethodName := ⟨RX10, "crawl", "(I)I"⟩
abbrev cX10_acts : ByteArray := prog_1_method_20_code
def yX10_acts : MethodName := ⟨RX10, "acts", "()I"⟩
abbrev cX10_isQuiet : ByteArray := prog_1_method_21_code
def yX10_isQuiet : MethodName := ⟨RX10, "isQuiet", "()Z"⟩
abbrev cX10_entries : ByteArray := prog_1_method_22_code
def yX10_entries : MethodName := ⟨RX10, "entries", "()I"⟩
abbrev cX10_edition : ByteArray := prog_1_method_23_code
def yX10_edition : MethodName := ⟨RX10, "edition", "(I)I"⟩
abbrev cX10_stale : ByteArray := prog_1_method_24_code
def yX10_stale : MethodName := ⟨RX10, "stale", "()I"⟩
abbrev cX10_segments : ByteArray := prog_1_method_25_code
def yX10_segments : MethodName := ⟨RX10, "segments", "()I"⟩
abbrev cX10_dead : ByteArray := prog_1_method_26_code
def yX10_dead : MethodName := ⟨RX10, "dead", "()I"⟩
abbrev cX10_answers : ByteArray := prog_1_method_27_code
def yX10_answers : MethodName := ⟨RX10, "answers", "(IIII)I"⟩
abbrev cX10_answersAnew : ByteArray := prog_1_method_28_code
def yX10_answersAnew : MethodName := ⟨RX10, "answersAnew", "(IIII)I"⟩
abbrev cX10_answer : ByteArray := prog_1_method_29_code
def yX10_answer : MethodName := ⟨RX10, "answer", "(IIII)I"⟩
abbrev cX10_closest : ByteArray := prog_1_method_30_code
def yX10_closest : MethodName := ⟨RX10, "closest", "(IIII)I"⟩
abbrev cX10_isMadeOrNone : ByteArray := prog_1_method_31_code
def yX10_isMadeOrNone : MethodName := ⟨RX10, "isMadeOrNone", "(I)Z"⟩
abbrev cX10_isName : ByteArray := prog_1_method_32_code
def yX10_isName : MethodName := ⟨RX10, "isName", "(C)Z"⟩
abbrev cX10_isPerson : ByteArray := prog_1_method_33_code
def yX10_isPerson : MethodName := ⟨RX10, "isPerson", "(I)Z"⟩
abbrev cX10_isWord : ByteArray := prog_1_method_34_code
def yX10_isWord : MethodName := ⟨RX10, "isWord", "(I)Z"⟩
abbrev cX10_isWordOrNone : ByteArray := prog_1_method_35_code
def yX10_isWordOrNone : MethodName := ⟨RX10, "isWordOrNone", "(I)Z"⟩
def RX11 : String := "SearchKeeperModel"
def TX11 : u_T := fun k => match k with
  | 0 => ("SearchKeeperModel", "thrown", "I", false)
  | 1 => ("SearchKeeperModel", "minute", "I", false)
  | 2 => ("SearchKeeperModel", "made", "I", false)
  | 3 => ("SearchKeeperModel", "isThere", "[Z", true)
  | 4 => ("SearchKeeperModel", "isFolder", "[Z", true)
  | 5 => ("SearchKeeperModel", "parents", "[I", true)
  | 6 => ("SearchKeeperModel", "names", "[C", true)
  | 7 => ("SearchKeeperModel", "editions", "[I", true)
  | 8 => ("SearchKeeperModel", "markMany", "[I", true)
  | 9 => ("SearchKeeperModel", "marks", "[I", true)
  | 10 => ("SearchKeeperModel", "isLocked", "[Z", true)
  | 11 => ("SearchKeeperModel", "allowed", "[I", true)
  | 12 => ("SearchKeeperModel", "rootMany", "I", false)
  | 13 => ("SearchKeeperModel", "roots", "[I", true)
  | 14 => ("SearchKeeperModel", "noticeMany", "[I", true)
  | 15 => ("SearchKeeperModel", "noticeKinds", "[I", true)
  | 16 => ("SearchKeeperModel", "noticeNodes", "[I", true)
  | 17 => ("SearchKeeperModel", "isFlooded", "[Z", true)
  | 18 => ("SearchKeeperModel", "crawls", "[Z", true)
  | 19 => ("SearchKeeperModel", "waitMany", "[I", true)
  | 20 => ("SearchKeeperModel", "waits", "[I", true)
  | 21 => ("SearchKeeperModel", "met", "[Z", true)
  | 22 => ("SearchKeeperModel", "hasEntry", "[Z", true)
  | 23 => ("SearchKeeperModel", "knownParents", "[I", true)
  | 24 => ("SearchKeeperModel", "knownNames", "[C", true)
  | 25 => ("SearchKeeperModel", "knownEditions", "[I", true)
  | 26 => ("SearchKeeperModel", "wordMany", "[I", true)
  | 27 => ("SearchKeeperModel", "words", "[I", true)
  | 28 => ("SearchKeeperModel", "depthLimit", "I", false)
  | 29 => ("SearchKeeperModel", "wordLimit", "I", false)
  | 30 => ("SearchKeeperModel", "actMany", "I", false)
  | 31 => ("SearchKeeperModel", "actNodes", "[I", true)
  | 32 => ("SearchKeeperModel", "actKinds", "[I", true)
  | 33 => ("SearchKeeperModel", "isPutOff", "[Z", true)
  | 34 => ("SearchKeeperModel", "isOnBattery", "Z", false)
  | 35 => ("SearchKeeperModel", "hour", "I", false)
  | 36 => ("SearchKeeperModel", "hourly", "I", false)
  | 37 => ("SearchKeeperModel", "placeMany", "I", false)
  | 38 => ("SearchKeeperModel", "placeSegments", "[I", true)
  | 39 => ("SearchKeeperModel", "placeNodes", "[I", true)
  | 40 => ("SearchKeeperModel", "placeDead", "[Z", true)
  | 41 => ("SearchKeeperModel", "segmentMany", "I", false)
  | 42 => ("SearchKeeperModel", "isRead", "[Z", true)
  | 43 => ("SearchKeeperModel", "leaving", "[Z", true)
  | 44 => ("SearchKeeperModel", "takenMany", "I", false)
  | _ => ("SearchKeeperModel", "taken", "[I", true)
def tyX11 : Nat → FieldType := fun k => match k with
  | 0 => .int
  | 1 => .int
  | 2 => .int
  | 3 => .array .boolean
  | 4 => .array .boolean
  | 5 => .array .int
  | 6 => .array .char
  | 7 => .array .int
  | 8 => .array .int
  | 9 => .array .int
  | 10 => .array .boolean
  | 11 => .array .int
  | 12 => .int
  | 13 => .array .int
  | 14 => .array .int
  | 15 => .array .int
  | 16 => .array .int
  | 17 => .array .boolean
  | 18 => .array .boolean
  | 19 => .array .int
  | 20 => .array .int
  | 21 => .array .boolean
  | 22 => .array .boolean
  | 23 => .array .int
  | 24 => .array .char
  | 25 => .array .int
  | 26 => .array .int
  | 27 => .array .int
  | 28 => .int
  | 29 => .int
  | 30 => .int
  | 31 => .array .int
  | 32 => .array .int
  | 33 => .array .boolean
  | 34 => .boolean
  | 35 => .int
  | 36 => .int
  | 37 => .int
  | 38 => .array .int
  | 39 => .array .int
  | 40 => .array .boolean
  | 41 => .int
  | 42 => .array .boolean
  | 43 => .array .boolean
  | 44 => .int
  | _ => .array .int
abbrev wsX110 : List Cond := u_ws RX11 TX11 46
theorem nmX11 : ∀ a, a < 46 → ∀ b, b < 46 → a ≠ b → (TX11 a).2.1 ≠ (TX11 b).2.1 := by decide +kernel
theorem tyX11_ok : ∀ k, k < 46 → parseFieldDescriptor (TX11 k).2.2.1 = some (tyX11 k) := by decide +kernel
abbrev cX11_init : ByteArray := prog_13_method_1_code
def yX11_init : MethodName := ⟨RX11, "<init>", "()V"⟩
abbrev cX11_thrown : ByteArray := prog_13_method_2_code
def yX11_thrown : MethodName := ⟨RX11, "thrown", "()I"⟩
abbrev cX11_fails : ByteArray := prog_13_method_3_code
def yX11_fails : MethodName := ⟨RX11, "fails", "(I)I"⟩
abbrev cX11_in : ByteArray := prog_13_method_4_code
def yX11_in : MethodName := ⟨RX11, "in", "(III)Z"⟩
abbrev cX11_isNode : ByteArray := prog_13_method_5_code
def yX11_isNode : MethodName := ⟨RX11, "isNode", "(I)Z"⟩
abbrev cX11_isFolderAt : ByteArray := prog_13_method_6_code
def yX11_isFolderAt : MethodName := ⟨RX11, "isFolderAt", "(I)Z"⟩
abbrev cX11_isFileAt : ByteArray := prog_13_method_7_code
def yX11_isFileAt : MethodName := ⟨RX11, "isFileAt", "(I)Z"⟩
abbrev cX11_isBelow : ByteArray := prog_13_method_8_code
def yX11_isBelow : MethodName := ⟨RX11, "isBelow", "(II)Z"⟩
abbrev cX11_rootAt : ByteArray := prog_13_method_9_code
def yX11_rootAt : MethodName := ⟨RX11, "rootAt", "(I)I"⟩
abbrev cX11_over : ByteArray := prog_13_method_10_code
def yX11_over : MethodName := ⟨RX11, "over", "(I)I"⟩
abbrev cX11_isTaken : ByteArray := prog_13_method_11_code
def yX11_isTaken : MethodName := ⟨RX11, "isTaken", "(ICI)Z"⟩
abbrev cX11_comes : ByteArray := prog_13_method_12_code
def yX11_comes : MethodName := ⟨RX11, "comes", "(III)V"⟩
abbrev cX11_make : ByteArray := prog_13_method_13_code
def yX11_make : MethodName := ⟨RX11, "make", "(ICZ)I"⟩
abbrev cX11_write : ByteArray := prog_13_method_14_code
def yX11_write : MethodName := ⟨RX11, "write", "(II)I"⟩
abbrev cX11_empty : ByteArray := prog_13_method_15_code
def yX11_empty : MethodName := ⟨RX11, "empty", "(I)I"⟩
abbrev cX11_holdsRoot : ByteArray := prog_13_method_16_code
def yX11_holdsRoot : MethodName := ⟨RX11, "holdsRoot", "(I)Z"⟩
abbrev cX11_move : ByteArray := prog_13_method_17_code
def yX11_move : MethodName := ⟨RX11, "move", "(IIC)I"⟩
abbrev cX11_remove : ByteArray := prog_13_method_18_code
def yX11_remove : MethodName := ⟨RX11, "remove", "(I)I"⟩
abbrev cX11_lock : ByteArray := prog_13_method_19_code
def yX11_lock : MethodName := ⟨RX11, "lock", "(IZ)Z"⟩
abbrev cX11_people : ByteArray := prog_13_method_20_code
def yX11_people : MethodName := ⟨RX11, "people", "(II)I"⟩
abbrev cX11_mayReadAt : ByteArray := prog_13_method_21_code
def yX11_mayReadAt : MethodName := ⟨RX11, "mayReadAt", "(II)Z"⟩
abbrev cX11_mayRead : ByteArray := prog_13_method_22_code
def yX11_mayRead : MethodName := ⟨RX11, "mayRead", "(II)Z"⟩
abbrev cX11_nodes : ByteArray := prog_13_method_23_code
def yX11_nodes : MethodName := ⟨RX11, "nodes", "()I"⟩
abbrev cX11_drops : ByteArray := prog_13_method_24_code
def yX11_drops : MethodName := ⟨RX11, "drops", "(I)V"⟩
abbrev cX11_looksAtLost : ByteArray := prog_13_method_25_code
def yX11_looksAtLost : MethodName := ⟨RX11, "looksAtLost", "()V"⟩
abbrev cX11_beginsCrawl : ByteArray := prog_13_method_26_code
def yX11_beginsCrawl : MethodName := ⟨RX11, "beginsCrawl", "(I)V"⟩
abbrev cX11_watch : ByteArray := prog_13_method_27_code
def yX11_watch : MethodName := ⟨RX11, "watch", "(I)I"⟩
abbrev cX11_notices : ByteArray := prog_13_method_28_code
def yX11_notices : MethodName := ⟨RX11, "notices", "(I)I"⟩
abbrev cX11_twice : ByteArray := prog_13_method_29_code
def yX11_twice : MethodName := ⟨RX11, "twice", "(I)I"⟩
abbrev cX11_lose : ByteArray := prog_13_method_30_code
def yX11_lose : MethodName := ⟨RX11, "lose", "(II)I"⟩
abbrev cX11_liesBelow : ByteArray := prog_13_method_31_code
def yX11_liesBelow : MethodName := ⟨RX11, "liesBelow", "(II)Z"⟩
abbrev cX11_adds : ByteArray := prog_13_method_32_code
def yX11_adds : MethodName := ⟨RX11, "adds", "(II)V"⟩
abbrev cX11_firstAct : ByteArray := prog_13_method_33_code
def yX11_firstAct : MethodName := ⟨RX11, "firstAct", "()I"⟩
abbrev cX11_takesAct : ByteArray := prog_13_method_34_code
def yX11_takesAct : MethodName := ⟨RX11, "takesAct", "(I)V"⟩
abbrev cX11_forgets : ByteArray := prog_13_method_35_code
def yX11_forgets : MethodName := ⟨RX11, "forgets", "(I)V"⟩
abbrev cX11_kills : ByteArray := prog_13_method_36_code
def yX11_kills : MethodName := ⟨RX11, "kills", "(I)V"⟩
abbrev cX11_takesWords : ByteArray := prog_13_method_37_code
def yX11_takesWords : MethodName := ⟨RX11, "takesWords", "(I)V"⟩
abbrev cX11_places : ByteArray := prog_13_method_38_code
def yX11_places : MethodName := ⟨RX11, "places", "(I)V"⟩
abbrev cX11_isKnown : ByteArray := prog_13_method_39_code
def yX11_isKnown : MethodName := ⟨RX11, "isKnown", "(I)Z"⟩
abbrev cX11_cost : ByteArray := prog_13_method_40_code
def yX11_cost : MethodName := ⟨RX11, "cost", "(I)I"⟩
abbrev cX11_acts : ByteArray := prog_13_method_41_code
def yX11_acts : MethodName := ⟨RX11, "acts", "(I)V"⟩
abbrev cX11_reads : ByteArray := prog_13_method_42_code
def yX11_reads : MethodName := ⟨RX11, "reads", "(I)V"⟩
abbrev cX11_isWaiting : ByteArray := prog_13_method_43_code
def yX11_isWaiting : MethodName := ⟨RX11, "isWaiting", "(II)Z"⟩
abbrev cX11_goesOn : ByteArray := prog_13_method_44_code
def yX11_goesOn : MethodName := ⟨RX11, "goesOn", "(I)V"⟩
abbrev cX11_firstNoticed : ByteArray := prog_13_method_45_code
def yX11_firstNoticed : MethodName := ⟨RX11, "firstNoticed", "()I"⟩
abbrev cX11_firstCrawl : ByteArray := prog_13_method_46_code
def yX11_firstCrawl : MethodName := ⟨RX11, "firstCrawl", "()I"⟩
abbrev cX11_notes : ByteArray := prog_13_method_47_code
def yX11_notes : MethodName := ⟨RX11, "notes", "(I)V"⟩
abbrev cX11_does : ByteArray := prog_13_method_48_code
def yX11_does : MethodName := ⟨RX11, "does", "(I)I"⟩
abbrev cX11_pass : ByteArray := prog_13_method_49_code
def yX11_pass : MethodName := ⟨RX11, "pass", "(I)I"⟩
abbrev cX11_battery : ByteArray := prog_13_method_50_code
def yX11_battery : MethodName := ⟨RX11, "battery", "(Z)Z"⟩
abbrev cX11_limits : ByteArray := prog_13_method_51_code
def yX11_limits : MethodName := ⟨RX11, "limits", "(II)I"⟩
abbrev cX11_work : ByteArray := prog_13_method_52_code
def yX11_work : MethodName := ⟨RX11, "work", "(I)I"⟩
abbrev cX11_crawl : ByteArray := prog_13_method_53_code
def yX11_crawl : MethodName := ⟨RX11, "crawl", "(I)I"⟩
abbrev cX11_acts_ : ByteArray := prog_13_method_54_code
def yX11_acts_ : MethodName := ⟨RX11, "acts", "()I"⟩
abbrev cX11_isQuiet : ByteArray := prog_13_method_55_code
def yX11_isQuiet : MethodName := ⟨RX11, "isQuiet", "()Z"⟩
abbrev cX11_entries : ByteArray := prog_13_method_56_code
def yX11_entries : MethodName := ⟨RX11, "entries", "()I"⟩
abbrev cX11_edition : ByteArray := prog_13_method_57_code
def yX11_edition : MethodName := ⟨RX11, "edition", "(I)I"⟩
abbrev cX11_stale : ByteArray := prog_13_method_58_code
def yX11_stale : MethodName := ⟨RX11, "stale", "()I"⟩
abbrev cX11_count : ByteArray := prog_13_method_59_code
def yX11_count : MethodName := ⟨RX11, "count", "(IZ)I"⟩
abbrev cX11_takesPlace : ByteArray := prog_13_method_60_code
def yX11_takesPlace : MethodName := ⟨RX11, "takesPlace", "(I)V"⟩
abbrev cX11_cleans : ByteArray := prog_13_method_61_code
def yX11_cleans : MethodName := ⟨RX11, "cleans", "(I)V"⟩
abbrev cX11_joins : ByteArray := prog_13_method_62_code
def yX11_joins : MethodName := ⟨RX11, "joins", "(I)V"⟩
abbrev cX11_indexes : ByteArray := prog_13_method_63_code
def yX11_indexes : MethodName := ⟨RX11, "indexes", "()V"⟩
abbrev cX11_segments : ByteArray := prog_13_method_64_code
def yX11_segments : MethodName := ⟨RX11, "segments", "()I"⟩
abbrev cX11_dead : ByteArray := prog_13_method_65_code
def yX11_dead : MethodName := ⟨RX11, "dead", "()I"⟩
abbrev cX11_areWords : ByteArray := prog_13_method_66_code
def yX11_areWords : MethodName := ⟨RX11, "areWords", "(II)Z"⟩
abbrev cX11_often : ByteArray := prog_13_method_67_code
def yX11_often : MethodName := ⟨RX11, "often", "(II)I"⟩
abbrev cX11_has : ByteArray := prog_13_method_68_code
def yX11_has : MethodName := ⟨RX11, "has", "(III)Z"⟩
abbrev cX11_score : ByteArray := prog_13_method_69_code
def yX11_score : MethodName := ⟨RX11, "score", "(III)I"⟩
abbrev cX11_isAnswer : ByteArray := prog_13_method_70_code
def yX11_isAnswer : MethodName := ⟨RX11, "isAnswer", "(IIIII)Z"⟩
abbrev cX11_canAsk : ByteArray := prog_13_method_71_code
def yX11_canAsk : MethodName := ⟨RX11, "canAsk", "(IIII)Z"⟩
abbrev cX11_answers : ByteArray := prog_13_method_72_code
def yX11_answers : MethodName := ⟨RX11, "answers", "(IIII)I"⟩
abbrev cX11_answersAnew : ByteArray := prog_13_method_73_code
def yX11_answersAnew : MethodName := ⟨RX11, "answersAnew", "(IIII)I"⟩
abbrev cX11_answer : ByteArray := prog_13_method_74_code
def yX11_answer : MethodName := ⟨RX11, "answer", "(IIII)I"⟩
abbrev cX11_closest : ByteArray := prog_13_method_75_code
def yX11_closest : MethodName := ⟨RX11, "closest", "(IIII)I"⟩
abbrev cX11_isCloser : ByteArray := prog_13_method_76_code
def yX11_isCloser : MethodName := ⟨RX11, "isCloser", "(IIII)Z"⟩
def RJ9 : String := "java/lang/Math"
def TJ9 : u_T := fun k => match k with
  | _ => ("", "", "", false)
def tyJ9 : Nat → FieldType := fun k => match k with
  | _ => .int
abbrev wsJ90 : List Cond := u_ws RJ9 TJ9 0
theorem nmJ9 : ∀ a, a < 0 → ∀ b, b < 0 → a ≠ b → (TJ9 a).2.1 ≠ (TJ9 b).2.1 := by decide +kernel
theorem tyJ9_ok : ∀ k, k < 0 → parseFieldDescriptor (TJ9 k).2.2.1 = some (tyJ9 k) := by decide +kernel
abbrev cJ9_abs_0f7a4 : ByteArray := prog_18_method_59_code
def yJ9_abs_0f7a4 : MethodName := ⟨RJ9, "abs", "(I)I"⟩
abbrev cJ9_max_7cf53 : ByteArray := prog_18_method_65_code
def yJ9_max_7cf53 : MethodName := ⟨RJ9, "max", "(II)I"⟩
abbrev cJ9_min_7cf53 : ByteArray := prog_18_method_69_code
def yJ9_min_7cf53 : MethodName := ⟨RJ9, "min", "(II)I"⟩
def RJ0 : String := "java/lang/String"
def TJ0 : u_T := fun k => match k with
  | _ => ("", "", "", false)
def tyJ0 : Nat → FieldType := fun k => match k with
  | _ => .int
abbrev wsJ00 : List Cond := u_ws RJ0 TJ0 0
theorem nmJ0 : ∀ a, a < 0 → ∀ b, b < 0 → a ≠ b → (TJ0 a).2.1 ≠ (TJ0 b).2.1 := by decide +kernel
theorem tyJ0_ok : ∀ k, k < 0 → parseFieldDescriptor (TJ0 k).2.2.1 = some (tyJ0 k) := by decide +kernel
def RL : String := "SearchKeeperLaw"
abbrev cL_make : ByteArray := method_3_code
def yL_make : MethodName := ⟨RL, "make", "(LSearchKeeper;ICZ[J)I"⟩
abbrev cL_write : ByteArray := method_4_code
def yL_write : MethodName := ⟨RL, "write", "(LSearchKeeper;II[J)I"⟩
abbrev cL_empty : ByteArray := method_5_code
def yL_empty : MethodName := ⟨RL, "empty", "(LSearchKeeper;I[J)I"⟩
abbrev cL_move : ByteArray := method_6_code
def yL_move : MethodName := ⟨RL, "move", "(LSearchKeeper;IIC[J)I"⟩
abbrev cL_remove : ByteArray := method_7_code
def yL_remove : MethodName := ⟨RL, "remove", "(LSearchKeeper;I[J)I"⟩
abbrev cL_lock : ByteArray := method_8_code
def yL_lock : MethodName := ⟨RL, "lock", "(LSearchKeeper;IZ[J)I"⟩
abbrev cL_people : ByteArray := method_9_code
def yL_people : MethodName := ⟨RL, "people", "(LSearchKeeper;II[J)I"⟩
abbrev cL_mayRead : ByteArray := method_10_code
def yL_mayRead : MethodName := ⟨RL, "mayRead", "(LSearchKeeper;II[J)I"⟩
abbrev cL_watch : ByteArray := method_11_code
def yL_watch : MethodName := ⟨RL, "watch", "(LSearchKeeper;I[J)I"⟩
abbrev cL_notices : ByteArray := method_12_code
def yL_notices : MethodName := ⟨RL, "notices", "(LSearchKeeper;I[J)I"⟩
abbrev cL_twice : ByteArray := method_13_code
def yL_twice : MethodName := ⟨RL, "twice", "(LSearchKeeper;I[J)I"⟩
abbrev cL_lose : ByteArray := method_14_code
def yL_lose : MethodName := ⟨RL, "lose", "(LSearchKeeper;II[J)I"⟩
abbrev cL_pass : ByteArray := method_15_code
def yL_pass : MethodName := ⟨RL, "pass", "(LSearchKeeper;I[J)I"⟩
abbrev cL_limits : ByteArray := method_16_code
def yL_limits : MethodName := ⟨RL, "limits", "(LSearchKeeper;II[J)I"⟩
abbrev cL_work : ByteArray := method_17_code
def yL_work : MethodName := ⟨RL, "work", "(LSearchKeeper;I[J)I"⟩
abbrev cL_crawl : ByteArray := method_18_code
def yL_crawl : MethodName := ⟨RL, "crawl", "(LSearchKeeper;I[J)I"⟩
abbrev cL_edition : ByteArray := method_19_code
def yL_edition : MethodName := ⟨RL, "edition", "(LSearchKeeper;I[J)I"⟩
abbrev cL_answers : ByteArray := method_20_code
def yL_answers : MethodName := ⟨RL, "answers", "(LSearchKeeper;IIII[J)I"⟩
abbrev cL_answersAnew : ByteArray := method_21_code
def yL_answersAnew : MethodName := ⟨RL, "answersAnew", "(LSearchKeeper;IIII[J)I"⟩
abbrev cL_answer : ByteArray := method_22_code
def yL_answer : MethodName := ⟨RL, "answer", "(LSearchKeeper;IIII[J)I"⟩
abbrev cL_closest : ByteArray := method_23_code
def yL_closest : MethodName := ⟨RL, "closest", "(LSearchKeeper;IIII[J)I"⟩
abbrev cL_law : ByteArray := code
def yL_law : MethodName := ⟨RL, "law", "([I)Z"⟩
abbrev vwCl : List vw_C := [(RX0, TX0, 4), (RX1, TX1, 5), (RX2, TX2, 10), (RX3, TX3, 4), (RX4, TX4, 6), (RX5, TX5, 6), (RX6, TX6, 2), (RX7, TX7, 6), (RX8, TX8, 3), (RX9, TX9, 10), (RX10, TX10, 9), (RX11, TX11, 46)]
end
section
/-! ===== links among nest mates: they ride as premises of their own ===== -/
def nestF : List (String × Nat × String × String × String) := [("SearchKeeper", 251, "SearchKeeper$Reader", "wordLimit", "I"), ("SearchKeeper", 254, "SearchKeeper$Reader", "depthLimit", "I"), ("SearchKeeper$Keeper", 102, "SearchKeeper$Root", "nodes", "[I"), ("SearchKeeper$Keeper", 106, "SearchKeeper$Root", "kinds", "[I"), ("SearchKeeper$Keeper", 170, "SearchKeeper$Root", "crawl", "LSearchKeeper$Crawl;"), ("SearchKeeper$Keeper", 178, "SearchKeeper$Root", "folder", "I"), ("SearchKeeper$Keeper", 190, "SearchKeeper$Crawl", "many", "I"), ("SearchKeeper$Keeper", 193, "SearchKeeper$Crawl", "goesOn", "Z"), ("SearchKeeper$Keeper", 93, "SearchKeeper$Root", "isFlooded", "Z"), ("SearchKeeper$Questions", 96, "SearchKeeper$Root", "folder", "I"), ("SearchKeeper$Roots", 26, "SearchKeeper$Root", "folder", "I"), ("SearchKeeper$Roots", 46, "SearchKeeper$Root", "isFlooded", "Z"), ("SearchKeeper$Roots", 54, "SearchKeeper$Root", "crawl", "LSearchKeeper$Crawl;"), ("SearchKeeper$Roots", 58, "SearchKeeper$Crawl", "goesOn", "Z")]
def nestM : List (String × Nat × MethodName) := [("SearchKeeper", 27, ⟨"SearchKeeper$Reader", "<init>", "()V"⟩), ("SearchKeeper$Keeper", 11, ⟨"SearchKeeper$Acts", "<init>", "()V"⟩), ("SearchKeeper$Root", 20, ⟨"SearchKeeper$Crawl", "<init>", "()V"⟩), ("SearchKeeper$Roots", 21, ⟨"SearchKeeper$Root", "<init>", "()V"⟩)]
def jN (U : State) : Prop := (∀ q ∈ nestF, va_Nw (.fieldLinkNest q.1 q.2.1 q.2.2.1 q.2.2.2.1 q.2.2.2.2 "SearchKeeper") U) ∧ ∀ q ∈ nestM, va_Nw (.methodLinkNest q.1 q.2.1 q.2.2 "SearchKeeper") U
theorem jN.warm {s U : State} (hW : s.WarmedH U.vm) (h : jN s) : jN U := ⟨fun q hq => va_Nw.warmF hW (h.1 q hq), fun q hq => va_Nw.warmM hW (h.2 q hq)⟩
theorem jN.same {u U : State} (hv : u.vm = U.vm) (h : jN u) : jN U := ⟨fun q hq => va_Nw.same rfl hv (h.1 q hq), fun q hq => va_Nw.same rfl hv (h.2 q hq)⟩
/-! ===== one list of words for every method: the tables' good words ===== -/
def gTbl : List Cond := lw_tbl.filter goodWord
theorem gTbl_good : GoodIn gTbl gTbl := fun _ hw => ⟨hw, good_of_word (List.mem_filter.mp hw).2⟩
theorem gTbl_in {w : Cond} (h : w ∈ gTbl) : w ∈ lw_tbl := (List.mem_filter.mp h).1
theorem gTbl_at {i : Nat} {w : Cond} (h : lw_tbl[i]? = some w) (hg : goodWord w = true) : w ∈ gTbl := List.mem_filter.mpr ⟨List.mem_of_getElem? h, hg⟩
/-! ===== a world laid out by numbers: a cell a number; what the cells hold is one function of number and place ===== -/
abbrev JX : Type := Nat → Nat → Int32
/-- how many cells; the kind of each: (0, n) ints, (1, n) booleans, (2, n) chars, (3, n) roots by their numbers, (10 + class, _) an object, (100 + b, n) a row of the rows b, b + 1 ..; an object's fields -/
abbrev Lay : Type := Nat × (Nat → Nat × Nat) × ((Nat → Nat) → (Nat → Int32) → Nat → Nat → List Value)
def cZ (L : Lay) (ad : Nat → Nat) (cA : Nat → ClassId) (f : Nat → Int32) (k : Nat) : va_E := match L.2.1 k with
  | (0, n) => .inl (cA 0, (n, .inl f))
  | (1, n) => .inl (cA 1, (n, .inl f))
  | (2, n) => .inl (cA 2, (n, .inl f))
  | (3, n) => .inl (cA 3, (n, .inr (.inr (.inr (.inr (fun j => some (ad (f j).toNatClampNeg)))))))
  | (c, n) => if c < 100 then .inr (c - 10, L.2.2 ad f k (c - 10)) else .inl (cA 4, (n, .inr (.inr (.inr (.inr (fun j => if j < n then some (ad (c - 100 + j)) else none))))))
def wZ (L : Lay) (ad : Nat → Nat) (cA : Nat → ClassId) (X : JX) : va_W := (List.range L.1).map fun k => (ad k, cZ L ad cA (X k) k)
def pX (X : JX) (k : Nat) (f : Nat → Int32) : JX := fun q => if q = k then f else X q
theorem pX_self (X : JX) (k : Nat) (f : Nat → Int32) : pX X k f k = f := if_pos rfl
theorem pX_ne (X : JX) {k q : Nat} (f : Nat → Int32) (h : q ≠ k) : pX X k f q = X q := if_neg h
theorem wZ_len (L : Lay) (ad : Nat → Nat) (cA : Nat → ClassId) (X : JX) : (wZ L ad cA X).length = L.1 := by simp [wZ]
theorem wZ_get {L : Lay} {ad : Nat → Nat} {cA : Nat → ClassId} {X : JX} {rs : va_W} {k : Nat} (h : k < L.1) : (wZ L ad cA X ++ rs)[k]? = some (ad k, cZ L ad cA (X k) k) := by
  rw [List.getElem?_append_left (by rw [wZ_len]; exact h), wZ, List.getElem?_map, List.getElem?_range h]
  rfl
theorem wZ_set {L : Lay} {ad : Nat → Nat} {cA : Nat → ClassId} {X X' : JX} {rs : va_W} {k : Nat} (h : k < L.1) (hX : ∀ j, j ≠ k → X' j = X j) : (wZ L ad cA X ++ rs).set k (ad k, cZ L ad cA (X' k) k) = wZ L ad cA X' ++ rs := by
  have hl : (wZ L ad cA X).length = L.1 := wZ_len L ad cA X
  rw [List.set_append_left _ _ (by rw [hl]; exact h)]
  congr 1
  apply List.ext_getElem?
  intro j
  by_cases hj : j = k
  · subst hj
    rw [List.getElem?_set_self (by rw [hl]; exact h), wZ, List.getElem?_map, List.getElem?_range h]
    rfl
  · rw [List.getElem?_set_ne (fun e => hj e.symm)]
    by_cases hlt : j < L.1
    · rw [wZ, wZ, List.getElem?_map, List.getElem?_map, List.getElem?_range hlt]
      simp only [Option.map_some]
      rw [hX j hj]
    · rw [List.getElem?_eq_none (by rw [wZ_len]; omega), List.getElem?_eq_none (by rw [wZ_len]; omega)]
/-- addresses do not move -/
theorem wZ_adr {L : Lay} {ad : Nat → Nat} {cA : Nat → ClassId} {X X' : JX} {rs : va_W} {k : Nat} {q : Nat × va_E} (h : (wZ L ad cA X' ++ rs)[k]? = some q) : ∃ q0, (wZ L ad cA X ++ rs)[k]? = some q0 ∧ q0.1 = q.1 := by
  by_cases hk : k < L.1
  · rw [wZ_get hk] at h
    cases h
    exact ⟨_, wZ_get hk, rfl⟩
  · rw [List.getElem?_append_right (by rw [wZ_len]; omega), wZ_len] at h
    exact ⟨q, by rw [List.getElem?_append_right (by rw [wZ_len]; omega), wZ_len]; exact h, rfl⟩
theorem wZ_D {L : Lay} {ad : Nat → Nat} {cA : Nat → ClassId} {X X' : JX} {rs : va_W} {A : Nat → Prop} (h : va_D A (wZ L ad cA X ++ rs)) : va_D A (wZ L ad cA X' ++ rs) := by
  refine ⟨fun i j x y hi hj hxy => ?_, fun k q hk => ?_⟩
  · obtain ⟨x0, h1, e1⟩ := wZ_adr (X := X) hi
    obtain ⟨y0, h2, e2⟩ := wZ_adr (X := X) hj
    exact h.1 i j x0 y0 h1 h2 (e1.trans (hxy.trans e2.symm))
  · obtain ⟨q0, h1, e1⟩ := wZ_adr (X := X) hk
    rw [← e1]
    exact h.2 k q0 h1
/-- the classes of arrays -/
def jTy (cA : Nat → ClassId) : List (ClassId × FieldType) := [(cA 0, .int), (cA 1, .boolean), (cA 2, .char), (cA 3, .object "SearchKeeper$Root"), (cA 4, .array .int), (cA 5, .long)]
def jRm (d kc ks : Nat) : Room := { frames := d, cells := kc, slots := ks, locals := 39 * d }
/-- what stays through a method's body -/
abbrev JK : Type := Program × Launch × Env × Room × State × MethodId × Array Value × List Frame × Method × Code × va_G × (Nat → Prop) × (Nat → Nat) × (Nat → ClassId) × va_W × (State → Prop)
def jad (κ : JK) : Nat → Nat := κ.2.2.2.2.2.2.2.2.2.2.2.2.1
def J (L : Lay) (n : Nat) (κ : JK) (X : JX) (pc : Nat) (lv : List (Nat × Value)) (st : List Value) : Prop := match κ with
  | (p, l, e, R, s, m, args, below, meth, c, D, A, ad, cA, rs, Q) => ∀ (H : Heap) (locs : List Loc) (ls : Array Slot), va_P D vwCl (wZ L ad cA X ++ rs) H → va_D A (wZ L ad cA X ++ rs) → va_S A s.heap H locs → lv_has ls n lv → W p l e R s m args below meth c H locs 0 0 Q (F0 m pc ls st)
def jOk (n : Nat) (cc : ByteArray) (own : String) (ret : Option FieldType) (d : Nat) (κ : JK) : Prop := match κ with
  | (p, l, e, R, s, m, args, below, meth, c, D, A, ad, cA, rs, Q) => p.tables.exec = Jvm.exec ∧ c.code = cc ∧ c.maxLocals = n ∧ s.vm.findClass own = some m.cls ∧ (∀ w ∈ gTbl, w.before args s = true) ∧ meth.sig.returnType = ret ∧ meth.locks = false ∧ va_K D vwCl (jTy cA) s ∧ (∀ q, s.heap.size ≤ q → A q) ∧ d ≤ R.frames ∧ 39 * d ≤ R.locals ∧ jN s
/-- the classes that are thrown, by numbers -/
def excN (k : Nat) : String := if k = 1 then "java/lang/IndexOutOfBoundsException" else if k = 2 then "java/lang/IllegalArgumentException" else "java/lang/IllegalStateException"
/-- how a method ends: with the exception of that number, or with that answer; with that world -/
abbrev JE : Type := Option Nat × Option Value × JX
def jQc (L : Lay) (D : va_G) (ad : Nat → Nat) (cA : Nat → ClassId) (rs : va_W) (A : Nat → Prop) (x : JE) : Array Value → State → Outcome → State → Prop := fun _ st oc t => (x.1 = none ∧ oc = .returned x.2.1 ∧ va_P D vwCl (wZ L ad cA x.2.2 ++ rs) t.heap) ∧ va_F A st t
def jXc (L : Lay) (D : va_G) (ad : Nat → Nat) (cA : Nat → ClassId) (rs : va_W) (A : Nat → Prop) (x : JE) : String → State → State → Prop := fun E st t => (∃ k, x.1 = some k ∧ E = excN k) ∧ va_P D vwCl (wZ L ad cA x.2.2 ++ rs) t.heap ∧ va_F A st t
/-- what a method that throws needs of the heap -/
def jH (A : Nat → Prop) (U : State) : Prop := vx_Zq Bundle.tN "UNASSIGNED_STACK" Bundle.steD A U U.heap ∧ vx_Zq Bundle.tN "SUPPRESSED_SENTINEL" Bundle.listD A U U.heap
def jFin (L : Lay) (thr : Bool) (x : JE) (κ : JK) : Prop := match κ with
  | (_, l, _, R, s, _, args, below, _, _, D, A, ad, cA, rs, Q) => if thr = true then Q = vx_MQ below (jQc L D ad cA rs A x) (jXc L D ad cA rs A x) args s 1 6 A ∧ 1 ≤ R.cells ∧ 6 ≤ R.slots ∧ l.stackTraces = false ∧ jH A s else Q = MQ below (jQc L D ad cA rs A x) args s 0 0 A
/-! ===== rows ===== -/
def jst (i : Nat) (v : Value) (lv : List (Nat × Value)) : List (Nat × Value) := (i, v) :: lv.filter (fun q => !(q.1 == i) && !(q.1 + 1 == i && q.2.category == 2))
def okI (i : Int32) (n : Nat) : Bool := decide (¬ i < 0) && decide (i.toNatClampNeg < n)
theorem okI_in {i : Int32} {n : Nat} (h : okI i n = true) : vp_in i n := by
  simp only [okI, Bool.and_eq_true, decide_eq_true_eq] at h
  exact fun q => q.elim h.1 (fun z => absurd h.2 (Nat.not_lt.mpr z))
theorem okI_lt {i : Int32} {n : Nat} (h : okI i n = true) : i.toNatClampNeg < n := by
  simp only [okI, Bool.and_eq_true, decide_eq_true_eq] at h
  exact h.2
def okB (v : Int32) : Bool := decide (v = 0) || decide (v = 1)
theorem okB_or {v : Int32} (h : okB v = true) : v = 0 ∨ v = 1 := by
  simpa [okB] using h
theorem okB_n {v : Int32} (h : okB v = true) : narrow .boolean (.int v) = .int v := by
  rcases okB_or h with rfl | rfl <;> rfl
theorem okB_f {v : Int32} (h : okB v = true) : fits .boolean (.int v) = true := by
  rcases okB_or h with rfl | rfl <;> rfl
theorem g_if {α : Type} {c : Prop} [Decidable c] {a : Option α} {r : α} (hr : (if c then a else none) = some r) : c ∧ a = some r := by
  by_cases h : c
  · rw [if_pos h] at hr; exact ⟨h, hr⟩
  · rw [if_neg h] at hr; cases hr
theorem g_bd {α β : Type} {a : Option α} {g : α → Option β} {r : β} (hr : a.bind g = some r) : ∃ v, a = some v ∧ g v = some r := by
  cases a with
  | none => cases hr
  | some v => exact ⟨v, rfl, hr⟩
/-- a loop: what is left for the body, at most n times -/
def loopF {A B : Type} (f : (A → Option B) → A → Option B) : Nat → A → Option B
  | 0 => fun _ => none
  | n + 1 => f (loopF f n)
section JR
variable {L : Lay} {n : Nat} {cc : ByteArray} {own : String} {ret : Option FieldType} {d : Nat} {κ : JK} {X : JX} {pc : Nat} {lv : List (Nat × Value)} {st : List Value} {β : Type} {r : β}

theorem j_iconst (K : jOk n cc own ret d κ) {z : Int} {v : Int32} (dg : decode cc pc = .ok (.iconst z, 1)) (hv : Int32.ofInt z = v) (k : J L n κ X (pc + 1) lv (.int v :: st)) : J L n κ X pc lv st := by
  obtain ⟨p, l, e, R, s, m, args, below, meth, c, D, A, ad, cA, rs, Q⟩ := κ
  obtain ⟨hx, hb, hml, hown, hts, hr0, hlk, hK, hA, hfr, hlo, hN⟩ := K
  intro H locs ls hP hD hS hl
  exact lv_iconst hx hb dg hv (k H locs ls hP hD hS hl)
theorem j_bipush (K : jOk n cc own ret d κ) {z : Int} {v : Int32} (dg : decode cc pc = .ok (.bipush z, 2)) (hv : (Int8.ofInt z).toInt32 = v) (k : J L n κ X (pc + 2) lv (.int v :: st)) : J L n κ X pc lv st := by
  obtain ⟨p, l, e, R, s, m, args, below, meth, c, D, A, ad, cA, rs, Q⟩ := κ
  obtain ⟨hx, hb, hml, hown, hts, hr0, hlk, hK, hA, hfr, hlo, hN⟩ := K
  intro H locs ls hP hD hS hl
  exact lv_bipush hx hb dg hv (k H locs ls hP hD hS hl)
theorem j_sipush (K : jOk n cc own ret d κ) {z : Int} {v : Int32} (dg : decode cc pc = .ok (.sipush z, 3)) (hv : (Int16.ofInt z).toInt32 = v) (k : J L n κ X (pc + 3) lv (.int v :: st)) : J L n κ X pc lv st := by
  obtain ⟨p, l, e, R, s, m, args, below, meth, c, D, A, ad, cA, rs, Q⟩ := κ
  obtain ⟨hx, hb, hml, hown, hts, hr0, hlk, hK, hA, hfr, hlo, hN⟩ := K
  intro H locs ls hP hD hS hl
  exact lv_sipush hx hb dg hv (k H locs ls hP hD hS hl)
theorem j_ldc (K : jOk n cc own ret d κ) {idx : Nat} {v : Int32} (h : Cond.constant own idx v ∈ gTbl) (dg : decode cc pc = .ok (.ldc idx, 2)) (k : J L n κ X (pc + 2) lv (.int v :: st)) : J L n κ X pc lv st := by
  obtain ⟨p, l, e, R, s, m, args, below, meth, c, D, A, ad, cA, rs, Q⟩ := κ
  obtain ⟨hx, hb, hml, hown, hts, hr0, hlk, hK, hA, hfr, hlo, hN⟩ := K
  intro H locs ls hP hD hS hl
  exact lv_ldc hx hb hown (hts _ h) dg (k H locs ls hP hD hS hl)
theorem j_lconst (K : jOk n cc own ret d κ) {z : Fin 2} {v : Int64} (dg : decode cc pc = .ok (.lconst z, 1)) (hv : Int64.ofNat (z : Nat) = v) (k : J L n κ X (pc + 1) lv (.long v :: st)) : J L n κ X pc lv st := by
  obtain ⟨p, l, e, R, s, m, args, below, meth, c, D, A, ad, cA, rs, Q⟩ := κ
  obtain ⟨hx, hb, hml, hown, hts, hr0, hlk, hK, hA, hfr, hlo, hN⟩ := K
  intro H locs ls hP hD hS hl
  exact lv_lconst hx hb dg hv (k H locs ls hP hD hS hl)
theorem j_null (K : jOk n cc own ret d κ) (dg : decode cc pc = .ok (.aconst_null, 1)) (k : J L n κ X (pc + 1) lv (.null :: st)) : J L n κ X pc lv st := by
  obtain ⟨p, l, e, R, s, m, args, below, meth, c, D, A, ad, cA, rs, Q⟩ := κ
  obtain ⟨hx, hb, hml, hown, hts, hr0, hlk, hK, hA, hfr, hlo, hN⟩ := K
  intro H locs ls hP hD hS hl
  exact lv_null hx hb dg (k H locs ls hP hD hS hl)
theorem j_iload_n (K : jOk n cc own ret d κ) {i : Fin 4} {x : Int32} (dg : decode cc pc = .ok (.iload_n i, 1)) (q : Nat) (h : lv[q]? = some ((i : Nat), .int x)) (k : J L n κ X (pc + 1) lv (.int x :: st)) : J L n κ X pc lv st := by
  obtain ⟨p, l, e, R, s, m, args, below, meth, c, D, A, ad, cA, rs, Q⟩ := κ
  obtain ⟨hx, hb, hml, hown, hts, hr0, hlk, hK, hA, hfr, hlo, hN⟩ := K
  intro H locs ls hP hD hS hl
  exact lv_iload_n hx hb dg rfl (lv_at hl q h) (k H locs ls hP hD hS hl)
theorem j_iload (K : jOk n cc own ret d κ) {i : Nat} {x : Int32} (dg : decode cc pc = .ok (.iload i, 2)) (q : Nat) (h : lv[q]? = some (i, .int x)) (k : J L n κ X (pc + 2) lv (.int x :: st)) : J L n κ X pc lv st := by
  obtain ⟨p, l, e, R, s, m, args, below, meth, c, D, A, ad, cA, rs, Q⟩ := κ
  obtain ⟨hx, hb, hml, hown, hts, hr0, hlk, hK, hA, hfr, hlo, hN⟩ := K
  intro H locs ls hP hD hS hl
  exact lv_iload hx hb dg (lv_at hl q h) (k H locs ls hP hD hS hl)
theorem j_aload_n (K : jOk n cc own ret d κ) {i : Fin 4} {x : Nat} (dg : decode cc pc = .ok (.aload_n i, 1)) (q : Nat) (h : lv[q]? = some ((i : Nat), .ref x)) (k : J L n κ X (pc + 1) lv (.ref x :: st)) : J L n κ X pc lv st := by
  obtain ⟨p, l, e, R, s, m, args, below, meth, c, D, A, ad, cA, rs, Q⟩ := κ
  obtain ⟨hx, hb, hml, hown, hts, hr0, hlk, hK, hA, hfr, hlo, hN⟩ := K
  intro H locs ls hP hD hS hl
  exact lv_aload_n hx hb dg rfl (lv_at hl q h) (k H locs ls hP hD hS hl)
theorem j_aload (K : jOk n cc own ret d κ) {i : Nat} {x : Nat} (dg : decode cc pc = .ok (.aload i, 2)) (q : Nat) (h : lv[q]? = some (i, .ref x)) (k : J L n κ X (pc + 2) lv (.ref x :: st)) : J L n κ X pc lv st := by
  obtain ⟨p, l, e, R, s, m, args, below, meth, c, D, A, ad, cA, rs, Q⟩ := κ
  obtain ⟨hx, hb, hml, hown, hts, hr0, hlk, hK, hA, hfr, hlo, hN⟩ := K
  intro H locs ls hP hD hS hl
  exact lv_aload hx hb dg (lv_at hl q h) (k H locs ls hP hD hS hl)
theorem j_aload_nN (K : jOk n cc own ret d κ) {i : Fin 4} (dg : decode cc pc = .ok (.aload_n i, 1)) (q : Nat) (h : lv[q]? = some ((i : Nat), .null)) (k : J L n κ X (pc + 1) lv (.null :: st)) : J L n κ X pc lv st := by
  obtain ⟨p, l, e, R, s, m, args, below, meth, c, D, A, ad, cA, rs, Q⟩ := κ
  obtain ⟨hx, hb, hml, hown, hts, hr0, hlk, hK, hA, hfr, hlo, hN⟩ := K
  intro H locs ls hP hD hS hl
  exact lv_aload_nN hx hb dg rfl (lv_at hl q h) (k H locs ls hP hD hS hl)
theorem j_aloadN (K : jOk n cc own ret d κ) {i : Nat} (dg : decode cc pc = .ok (.aload i, 2)) (q : Nat) (h : lv[q]? = some (i, .null)) (k : J L n κ X (pc + 2) lv (.null :: st)) : J L n κ X pc lv st := by
  obtain ⟨p, l, e, R, s, m, args, below, meth, c, D, A, ad, cA, rs, Q⟩ := κ
  obtain ⟨hx, hb, hml, hown, hts, hr0, hlk, hK, hA, hfr, hlo, hN⟩ := K
  intro H locs ls hP hD hS hl
  exact lv_aloadN hx hb dg (lv_at hl q h) (k H locs ls hP hD hS hl)
theorem j_istore_n (K : jOk n cc own ret d κ) {i : Fin 4} {x : Int32} (dg : decode cc pc = .ok (.istore_n i, 1)) (hn : (i : Nat) < n) (k : J L n κ X (pc + 1) (jst (i : Nat) (.int x) lv) st) : J L n κ X pc lv (.int x :: st) := by
  obtain ⟨p, l, e, R, s, m, args, below, meth, c, D, A, ad, cA, rs, Q⟩ := κ
  obtain ⟨hx, hb, hml, hown, hts, hr0, hlk, hK, hA, hfr, hlo, hN⟩ := K
  intro H locs ls hP hD hS hl
  exact lv_istore_n hx hb dg rfl hl hn rfl (fun ls hl => k H locs ls hP hD hS hl)
theorem j_istore (K : jOk n cc own ret d κ) {i : Nat} {x : Int32} (dg : decode cc pc = .ok (.istore i, 2)) (hn : i < n) (k : J L n κ X (pc + 2) (jst i (.int x) lv) st) : J L n κ X pc lv (.int x :: st) := by
  obtain ⟨p, l, e, R, s, m, args, below, meth, c, D, A, ad, cA, rs, Q⟩ := κ
  obtain ⟨hx, hb, hml, hown, hts, hr0, hlk, hK, hA, hfr, hlo, hN⟩ := K
  intro H locs ls hP hD hS hl
  exact lv_istore hx hb dg hl hn rfl (fun ls hl => k H locs ls hP hD hS hl)
theorem j_astore_n (K : jOk n cc own ret d κ) {i : Fin 4} {x : Nat} (dg : decode cc pc = .ok (.astore_n i, 1)) (hn : (i : Nat) < n) (k : J L n κ X (pc + 1) (jst (i : Nat) (.ref x) lv) st) : J L n κ X pc lv (.ref x :: st) := by
  obtain ⟨p, l, e, R, s, m, args, below, meth, c, D, A, ad, cA, rs, Q⟩ := κ
  obtain ⟨hx, hb, hml, hown, hts, hr0, hlk, hK, hA, hfr, hlo, hN⟩ := K
  intro H locs ls hP hD hS hl
  exact lv_astore_n hx hb dg rfl hl hn rfl (fun ls hl => k H locs ls hP hD hS hl)
theorem j_astore (K : jOk n cc own ret d κ) {i : Nat} {x : Nat} (dg : decode cc pc = .ok (.astore i, 2)) (hn : i < n) (k : J L n κ X (pc + 2) (jst i (.ref x) lv) st) : J L n κ X pc lv (.ref x :: st) := by
  obtain ⟨p, l, e, R, s, m, args, below, meth, c, D, A, ad, cA, rs, Q⟩ := κ
  obtain ⟨hx, hb, hml, hown, hts, hr0, hlk, hK, hA, hfr, hlo, hN⟩ := K
  intro H locs ls hP hD hS hl
  exact lv_astore hx hb dg hl hn rfl (fun ls hl => k H locs ls hP hD hS hl)
theorem j_astore_nN (K : jOk n cc own ret d κ) {i : Fin 4} (dg : decode cc pc = .ok (.astore_n i, 1)) (hn : (i : Nat) < n) (k : J L n κ X (pc + 1) (jst (i : Nat) .null lv) st) : J L n κ X pc lv (.null :: st) := by
  obtain ⟨p, l, e, R, s, m, args, below, meth, c, D, A, ad, cA, rs, Q⟩ := κ
  obtain ⟨hx, hb, hml, hown, hts, hr0, hlk, hK, hA, hfr, hlo, hN⟩ := K
  intro H locs ls hP hD hS hl
  exact lv_astore_nN hx hb dg rfl hl hn rfl (fun ls hl => k H locs ls hP hD hS hl)
theorem j_astoreN (K : jOk n cc own ret d κ) {i : Nat} (dg : decode cc pc = .ok (.astore i, 2)) (hn : i < n) (k : J L n κ X (pc + 2) (jst i .null lv) st) : J L n κ X pc lv (.null :: st) := by
  obtain ⟨p, l, e, R, s, m, args, below, meth, c, D, A, ad, cA, rs, Q⟩ := κ
  obtain ⟨hx, hb, hml, hown, hts, hr0, hlk, hK, hA, hfr, hlo, hN⟩ := K
  intro H locs ls hP hD hS hl
  exact lv_astoreN hx hb dg hl hn rfl (fun ls hl => k H locs ls hP hD hS hl)
theorem j_iinc (K : jOk n cc own ret d κ) {i : Nat} {z : Int} {x v : Int32} (dg : decode cc pc = .ok (.iinc i z, 3)) (q : Nat) (h : lv[q]? = some (i, .int x)) (hz : Int32.ofInt z = v) (hn : i < n) (k : J L n κ X (pc + 3) (jst i (.int (x + v)) lv) st) : J L n κ X pc lv st := by
  obtain ⟨p, l, e, R, s, m, args, below, meth, c, D, A, ad, cA, rs, Q⟩ := κ
  obtain ⟨hx, hb, hml, hown, hts, hr0, hlk, hK, hA, hfr, hlo, hN⟩ := K
  intro H locs ls hP hD hS hl
  subst hz; exact lv_iinc hx hb dg hl h rfl hn rfl (fun ls hl => k H locs ls hP hD hS hl)
theorem j_iadd (K : jOk n cc own ret d κ) {x y : Int32} (dg : decode cc pc = .ok (.iadd, 1)) (k : J L n κ X (pc + 1) lv (.int (x + y) :: st)) : J L n κ X pc lv (.int y :: .int x :: st) := by
  obtain ⟨p, l, e, R, s, m, args, below, meth, c, D, A, ad, cA, rs, Q⟩ := κ
  obtain ⟨hx, hb, hml, hown, hts, hr0, hlk, hK, hA, hfr, hlo, hN⟩ := K
  intro H locs ls hP hD hS hl
  exact lv_iadd hx hb dg (k H locs ls hP hD hS hl)
theorem j_isub (K : jOk n cc own ret d κ) {x y : Int32} (dg : decode cc pc = .ok (.isub, 1)) (k : J L n κ X (pc + 1) lv (.int (x - y) :: st)) : J L n κ X pc lv (.int y :: .int x :: st) := by
  obtain ⟨p, l, e, R, s, m, args, below, meth, c, D, A, ad, cA, rs, Q⟩ := κ
  obtain ⟨hx, hb, hml, hown, hts, hr0, hlk, hK, hA, hfr, hlo, hN⟩ := K
  intro H locs ls hP hD hS hl
  exact lv_isub hx hb dg (k H locs ls hP hD hS hl)
theorem j_imul (K : jOk n cc own ret d κ) {x y : Int32} (dg : decode cc pc = .ok (.imul, 1)) (k : J L n κ X (pc + 1) lv (.int (x * y) :: st)) : J L n κ X pc lv (.int y :: .int x :: st) := by
  obtain ⟨p, l, e, R, s, m, args, below, meth, c, D, A, ad, cA, rs, Q⟩ := κ
  obtain ⟨hx, hb, hml, hown, hts, hr0, hlk, hK, hA, hfr, hlo, hN⟩ := K
  intro H locs ls hP hD hS hl
  exact lv_imul hx hb dg (k H locs ls hP hD hS hl)
theorem j_iand (K : jOk n cc own ret d κ) {x y : Int32} (dg : decode cc pc = .ok (.iand, 1)) (k : J L n κ X (pc + 1) lv (.int (x &&& y) :: st)) : J L n κ X pc lv (.int y :: .int x :: st) := by
  obtain ⟨p, l, e, R, s, m, args, below, meth, c, D, A, ad, cA, rs, Q⟩ := κ
  obtain ⟨hx, hb, hml, hown, hts, hr0, hlk, hK, hA, hfr, hlo, hN⟩ := K
  intro H locs ls hP hD hS hl
  exact lv_iand hx hb dg (k H locs ls hP hD hS hl)
theorem j_ishr (K : jOk n cc own ret d κ) {x y : Int32} (dg : decode cc pc = .ok (.ishr, 1)) (k : J L n κ X (pc + 1) lv (.int (x >>> (y &&& 31)) :: st)) : J L n κ X pc lv (.int y :: .int x :: st) := by
  obtain ⟨p, l, e, R, s, m, args, below, meth, c, D, A, ad, cA, rs, Q⟩ := κ
  obtain ⟨hx, hb, hml, hown, hts, hr0, hlk, hK, hA, hfr, hlo, hN⟩ := K
  intro H locs ls hP hD hS hl
  exact lv_ishr hx hb dg (k H locs ls hP hD hS hl)
theorem j_idiv (K : jOk n cc own ret d κ) {x y : Int32} (dg : decode cc pc = .ok (.idiv, 1)) (hy : ¬ y = 0) (k : J L n κ X (pc + 1) lv (.int (x / y) :: st)) : J L n κ X pc lv (.int y :: .int x :: st) := by
  obtain ⟨p, l, e, R, s, m, args, below, meth, c, D, A, ad, cA, rs, Q⟩ := κ
  obtain ⟨hx, hb, hml, hown, hts, hr0, hlk, hK, hA, hfr, hlo, hN⟩ := K
  intro H locs ls hP hD hS hl
  exact lv_idiv hx hb dg hy (k H locs ls hP hD hS hl)
theorem j_irem (K : jOk n cc own ret d κ) {x y : Int32} (dg : decode cc pc = .ok (.irem, 1)) (hy : ¬ y = 0) (k : J L n κ X (pc + 1) lv (.int (x - x / y * y) :: st)) : J L n κ X pc lv (.int y :: .int x :: st) := by
  obtain ⟨p, l, e, R, s, m, args, below, meth, c, D, A, ad, cA, rs, Q⟩ := κ
  obtain ⟨hx, hb, hml, hown, hts, hr0, hlk, hK, hA, hfr, hlo, hN⟩ := K
  intro H locs ls hP hD hS hl
  exact lv_irem hx hb dg hy (k H locs ls hP hD hS hl)
theorem j_dup (K : jOk n cc own ret d κ) {v : Value} (dg : decode cc pc = .ok (.dup, 1)) (hv : v.category = 1) (k : J L n κ X (pc + 1) lv (v :: v :: st)) : J L n κ X pc lv (v :: st) := by
  obtain ⟨p, l, e, R, s, m, args, below, meth, c, D, A, ad, cA, rs, Q⟩ := κ
  obtain ⟨hx, hb, hml, hown, hts, hr0, hlk, hK, hA, hfr, hlo, hN⟩ := K
  intro H locs ls hP hD hS hl
  exact lv_dup hx hb dg hv (k H locs ls hP hD hS hl)
theorem j_pop (K : jOk n cc own ret d κ) {v : Value} (dg : decode cc pc = .ok (.pop, 1)) (hv : v.category = 1) (k : J L n κ X (pc + 1) lv st) : J L n κ X pc lv (v :: st) := by
  obtain ⟨p, l, e, R, s, m, args, below, meth, c, D, A, ad, cA, rs, Q⟩ := κ
  obtain ⟨hx, hb, hml, hown, hts, hr0, hlk, hK, hA, hfr, hlo, hN⟩ := K
  intro H locs ls hP hD hS hl
  exact lv_pop hx hb dg hv (k H locs ls hP hD hS hl)
theorem j_dup2 (K : jOk n cc own ret d κ) {v u : Value} (dg : decode cc pc = .ok (.dup2, 1)) (hv : v.category = 1) (hu : u.category = 1) (k : J L n κ X (pc + 1) lv (v :: u :: v :: u :: st)) : J L n κ X pc lv (v :: u :: st) := by
  obtain ⟨p, l, e, R, s, m, args, below, meth, c, D, A, ad, cA, rs, Q⟩ := κ
  obtain ⟨hx, hb, hml, hown, hts, hr0, hlk, hK, hA, hfr, hlo, hN⟩ := K
  intro H locs ls hP hD hS hl
  exact lv_dup2_11 hx hb dg hv hu (k H locs ls hP hD hS hl)
theorem j_dup_x1 (K : jOk n cc own ret d κ) {v u : Value} (dg : decode cc pc = .ok (.dup_x1, 1)) (hv : v.category = 1) (hu : u.category = 1) (k : J L n κ X (pc + 1) lv (v :: u :: v :: st)) : J L n κ X pc lv (v :: u :: st) := by
  obtain ⟨p, l, e, R, s, m, args, below, meth, c, D, A, ad, cA, rs, Q⟩ := κ
  obtain ⟨hx, hb, hml, hown, hts, hr0, hlk, hK, hA, hfr, hlo, hN⟩ := K
  intro H locs ls hP hD hS hl
  exact lv_dup_x1 hx hb dg hv hu (k H locs ls hP hD hS hl)
theorem j_if_eq (K : jOk n cc own ret d κ) {x : Int32} {off : Int} {tgt : Nat} {a b : Option β} (dg : decode cc pc = .ok (.ifCond .eq off, 3)) (ht : (pc : Int) + off = (tgt : Int)) (hr : (if x = 0 then a else b) = some r) (kt : a = some r → J L n κ X tgt lv st) (kf : b = some r → J L n κ X (pc + 3) lv st) : J L n κ X pc lv (.int x :: st) := by
  obtain ⟨p, l, e, R, s, m, args, below, meth, c, D, A, ad, cA, rs, Q⟩ := κ
  obtain ⟨hx, hb, hml, hown, hts, hr0, hlk, hK, hA, hfr, hlo, hN⟩ := K
  intro H locs ls hP hD hS hl
  exact lv_if_eq hx hb dg ht (fun h => kt (by rw [if_pos h] at hr; exact hr) H locs ls hP hD hS hl) (fun h => kf (by rw [if_neg h] at hr; exact hr) H locs ls hP hD hS hl)
theorem j_icmp_eq (K : jOk n cc own ret d κ) {x y : Int32} {off : Int} {tgt : Nat} {a b : Option β} (dg : decode cc pc = .ok (.if_icmp .eq off, 3)) (ht : (pc : Int) + off = (tgt : Int)) (hr : (if x = y then a else b) = some r) (kt : a = some r → J L n κ X tgt lv st) (kf : b = some r → J L n κ X (pc + 3) lv st) : J L n κ X pc lv (.int y :: .int x :: st) := by
  obtain ⟨p, l, e, R, s, m, args, below, meth, c, D, A, ad, cA, rs, Q⟩ := κ
  obtain ⟨hx, hb, hml, hown, hts, hr0, hlk, hK, hA, hfr, hlo, hN⟩ := K
  intro H locs ls hP hD hS hl
  exact lv_icmp_eq hx hb dg ht (fun h => kt (by rw [if_pos h] at hr; exact hr) H locs ls hP hD hS hl) (fun h => kf (by rw [if_neg h] at hr; exact hr) H locs ls hP hD hS hl)
theorem j_if_ne (K : jOk n cc own ret d κ) {x : Int32} {off : Int} {tgt : Nat} {a b : Option β} (dg : decode cc pc = .ok (.ifCond .ne off, 3)) (ht : (pc : Int) + off = (tgt : Int)) (hr : (if ¬ x = 0 then a else b) = some r) (kt : a = some r → J L n κ X tgt lv st) (kf : b = some r → J L n κ X (pc + 3) lv st) : J L n κ X pc lv (.int x :: st) := by
  obtain ⟨p, l, e, R, s, m, args, below, meth, c, D, A, ad, cA, rs, Q⟩ := κ
  obtain ⟨hx, hb, hml, hown, hts, hr0, hlk, hK, hA, hfr, hlo, hN⟩ := K
  intro H locs ls hP hD hS hl
  exact lv_if_ne hx hb dg ht (fun h => kt (by rw [if_pos h] at hr; exact hr) H locs ls hP hD hS hl) (fun h => kf (by rw [if_neg (fun q => q h)] at hr; exact hr) H locs ls hP hD hS hl)
theorem j_icmp_ne (K : jOk n cc own ret d κ) {x y : Int32} {off : Int} {tgt : Nat} {a b : Option β} (dg : decode cc pc = .ok (.if_icmp .ne off, 3)) (ht : (pc : Int) + off = (tgt : Int)) (hr : (if ¬ x = y then a else b) = some r) (kt : a = some r → J L n κ X tgt lv st) (kf : b = some r → J L n κ X (pc + 3) lv st) : J L n κ X pc lv (.int y :: .int x :: st) := by
  obtain ⟨p, l, e, R, s, m, args, below, meth, c, D, A, ad, cA, rs, Q⟩ := κ
  obtain ⟨hx, hb, hml, hown, hts, hr0, hlk, hK, hA, hfr, hlo, hN⟩ := K
  intro H locs ls hP hD hS hl
  exact lv_icmp_ne hx hb dg ht (fun h => kt (by rw [if_pos h] at hr; exact hr) H locs ls hP hD hS hl) (fun h => kf (by rw [if_neg (fun q => q h)] at hr; exact hr) H locs ls hP hD hS hl)
theorem j_if_lt (K : jOk n cc own ret d κ) {x : Int32} {off : Int} {tgt : Nat} {a b : Option β} (dg : decode cc pc = .ok (.ifCond .lt off, 3)) (ht : (pc : Int) + off = (tgt : Int)) (hr : (if x < 0 then a else b) = some r) (kt : a = some r → J L n κ X tgt lv st) (kf : b = some r → J L n κ X (pc + 3) lv st) : J L n κ X pc lv (.int x :: st) := by
  obtain ⟨p, l, e, R, s, m, args, below, meth, c, D, A, ad, cA, rs, Q⟩ := κ
  obtain ⟨hx, hb, hml, hown, hts, hr0, hlk, hK, hA, hfr, hlo, hN⟩ := K
  intro H locs ls hP hD hS hl
  exact lv_if_lt hx hb dg ht (fun h => kt (by rw [if_pos h] at hr; exact hr) H locs ls hP hD hS hl) (fun h => kf (by rw [if_neg h] at hr; exact hr) H locs ls hP hD hS hl)
theorem j_icmp_lt (K : jOk n cc own ret d κ) {x y : Int32} {off : Int} {tgt : Nat} {a b : Option β} (dg : decode cc pc = .ok (.if_icmp .lt off, 3)) (ht : (pc : Int) + off = (tgt : Int)) (hr : (if x < y then a else b) = some r) (kt : a = some r → J L n κ X tgt lv st) (kf : b = some r → J L n κ X (pc + 3) lv st) : J L n κ X pc lv (.int y :: .int x :: st) := by
  obtain ⟨p, l, e, R, s, m, args, below, meth, c, D, A, ad, cA, rs, Q⟩ := κ
  obtain ⟨hx, hb, hml, hown, hts, hr0, hlk, hK, hA, hfr, hlo, hN⟩ := K
  intro H locs ls hP hD hS hl
  exact lv_icmp_lt hx hb dg ht (fun h => kt (by rw [if_pos h] at hr; exact hr) H locs ls hP hD hS hl) (fun h => kf (by rw [if_neg h] at hr; exact hr) H locs ls hP hD hS hl)
theorem j_if_ge (K : jOk n cc own ret d κ) {x : Int32} {off : Int} {tgt : Nat} {a b : Option β} (dg : decode cc pc = .ok (.ifCond .ge off, 3)) (ht : (pc : Int) + off = (tgt : Int)) (hr : (if 0 ≤ x then a else b) = some r) (kt : a = some r → J L n κ X tgt lv st) (kf : b = some r → J L n κ X (pc + 3) lv st) : J L n κ X pc lv (.int x :: st) := by
  obtain ⟨p, l, e, R, s, m, args, below, meth, c, D, A, ad, cA, rs, Q⟩ := κ
  obtain ⟨hx, hb, hml, hown, hts, hr0, hlk, hK, hA, hfr, hlo, hN⟩ := K
  intro H locs ls hP hD hS hl
  exact lv_if_ge hx hb dg ht (fun h => kt (by rw [if_pos h] at hr; exact hr) H locs ls hP hD hS hl) (fun h => kf (by rw [if_neg h] at hr; exact hr) H locs ls hP hD hS hl)
theorem j_icmp_ge (K : jOk n cc own ret d κ) {x y : Int32} {off : Int} {tgt : Nat} {a b : Option β} (dg : decode cc pc = .ok (.if_icmp .ge off, 3)) (ht : (pc : Int) + off = (tgt : Int)) (hr : (if y ≤ x then a else b) = some r) (kt : a = some r → J L n κ X tgt lv st) (kf : b = some r → J L n κ X (pc + 3) lv st) : J L n κ X pc lv (.int y :: .int x :: st) := by
  obtain ⟨p, l, e, R, s, m, args, below, meth, c, D, A, ad, cA, rs, Q⟩ := κ
  obtain ⟨hx, hb, hml, hown, hts, hr0, hlk, hK, hA, hfr, hlo, hN⟩ := K
  intro H locs ls hP hD hS hl
  exact lv_icmp_ge hx hb dg ht (fun h => kt (by rw [if_pos h] at hr; exact hr) H locs ls hP hD hS hl) (fun h => kf (by rw [if_neg h] at hr; exact hr) H locs ls hP hD hS hl)
theorem j_if_gt (K : jOk n cc own ret d κ) {x : Int32} {off : Int} {tgt : Nat} {a b : Option β} (dg : decode cc pc = .ok (.ifCond .gt off, 3)) (ht : (pc : Int) + off = (tgt : Int)) (hr : (if 0 < x then a else b) = some r) (kt : a = some r → J L n κ X tgt lv st) (kf : b = some r → J L n κ X (pc + 3) lv st) : J L n κ X pc lv (.int x :: st) := by
  obtain ⟨p, l, e, R, s, m, args, below, meth, c, D, A, ad, cA, rs, Q⟩ := κ
  obtain ⟨hx, hb, hml, hown, hts, hr0, hlk, hK, hA, hfr, hlo, hN⟩ := K
  intro H locs ls hP hD hS hl
  exact lv_if_gt hx hb dg ht (fun h => kt (by rw [if_pos h] at hr; exact hr) H locs ls hP hD hS hl) (fun h => kf (by rw [if_neg h] at hr; exact hr) H locs ls hP hD hS hl)
theorem j_icmp_gt (K : jOk n cc own ret d κ) {x y : Int32} {off : Int} {tgt : Nat} {a b : Option β} (dg : decode cc pc = .ok (.if_icmp .gt off, 3)) (ht : (pc : Int) + off = (tgt : Int)) (hr : (if y < x then a else b) = some r) (kt : a = some r → J L n κ X tgt lv st) (kf : b = some r → J L n κ X (pc + 3) lv st) : J L n κ X pc lv (.int y :: .int x :: st) := by
  obtain ⟨p, l, e, R, s, m, args, below, meth, c, D, A, ad, cA, rs, Q⟩ := κ
  obtain ⟨hx, hb, hml, hown, hts, hr0, hlk, hK, hA, hfr, hlo, hN⟩ := K
  intro H locs ls hP hD hS hl
  exact lv_icmp_gt hx hb dg ht (fun h => kt (by rw [if_pos h] at hr; exact hr) H locs ls hP hD hS hl) (fun h => kf (by rw [if_neg h] at hr; exact hr) H locs ls hP hD hS hl)
theorem j_if_le (K : jOk n cc own ret d κ) {x : Int32} {off : Int} {tgt : Nat} {a b : Option β} (dg : decode cc pc = .ok (.ifCond .le off, 3)) (ht : (pc : Int) + off = (tgt : Int)) (hr : (if x ≤ 0 then a else b) = some r) (kt : a = some r → J L n κ X tgt lv st) (kf : b = some r → J L n κ X (pc + 3) lv st) : J L n κ X pc lv (.int x :: st) := by
  obtain ⟨p, l, e, R, s, m, args, below, meth, c, D, A, ad, cA, rs, Q⟩ := κ
  obtain ⟨hx, hb, hml, hown, hts, hr0, hlk, hK, hA, hfr, hlo, hN⟩ := K
  intro H locs ls hP hD hS hl
  exact lv_if_le hx hb dg ht (fun h => kt (by rw [if_pos h] at hr; exact hr) H locs ls hP hD hS hl) (fun h => kf (by rw [if_neg h] at hr; exact hr) H locs ls hP hD hS hl)
theorem j_icmp_le (K : jOk n cc own ret d κ) {x y : Int32} {off : Int} {tgt : Nat} {a b : Option β} (dg : decode cc pc = .ok (.if_icmp .le off, 3)) (ht : (pc : Int) + off = (tgt : Int)) (hr : (if x ≤ y then a else b) = some r) (kt : a = some r → J L n κ X tgt lv st) (kf : b = some r → J L n κ X (pc + 3) lv st) : J L n κ X pc lv (.int y :: .int x :: st) := by
  obtain ⟨p, l, e, R, s, m, args, below, meth, c, D, A, ad, cA, rs, Q⟩ := κ
  obtain ⟨hx, hb, hml, hown, hts, hr0, hlk, hK, hA, hfr, hlo, hN⟩ := K
  intro H locs ls hP hD hS hl
  exact lv_icmp_le hx hb dg ht (fun h => kt (by rw [if_pos h] at hr; exact hr) H locs ls hP hD hS hl) (fun h => kf (by rw [if_neg h] at hr; exact hr) H locs ls hP hD hS hl)
theorem j_goto (K : jOk n cc own ret d κ) {off : Int} {tgt : Nat} (dg : decode cc pc = .ok (.goto off, 3)) (ht : (pc : Int) + off = (tgt : Int)) (k : J L n κ X tgt lv st) : J L n κ X pc lv st := by
  obtain ⟨p, l, e, R, s, m, args, below, meth, c, D, A, ad, cA, rs, Q⟩ := κ
  obtain ⟨hx, hb, hml, hown, hts, hr0, hlk, hK, hA, hfr, hlo, hN⟩ := K
  intro H locs ls hP hD hS hl
  exact lv_goto hx hb dg ht (k H locs ls hP hD hS hl)
theorem j_ifnull (K : jOk n cc own ret d κ) {a : Nat} {off : Int} (dg : decode cc pc = .ok (.ifnull off, 3)) (k : J L n κ X (pc + 3) lv st) : J L n κ X pc lv (.ref a :: st) := by
  obtain ⟨p, l, e, R, s, m, args, below, meth, c, D, A, ad, cA, rs, Q⟩ := κ
  obtain ⟨hx, hb, hml, hown, hts, hr0, hlk, hK, hA, hfr, hlo, hN⟩ := K
  intro H locs ls hP hD hS hl
  exact lv_ifnull hx hb dg (k H locs ls hP hD hS hl)
theorem j_ifnullN (K : jOk n cc own ret d κ) {off : Int} {tgt : Nat} (dg : decode cc pc = .ok (.ifnull off, 3)) (ht : (pc : Int) + off = (tgt : Int)) (k : J L n κ X tgt lv st) : J L n κ X pc lv (.null :: st) := by
  obtain ⟨p, l, e, R, s, m, args, below, meth, c, D, A, ad, cA, rs, Q⟩ := κ
  obtain ⟨hx, hb, hml, hown, hts, hr0, hlk, hK, hA, hfr, hlo, hN⟩ := K
  intro H locs ls hP hD hS hl
  exact lv_ifnullN hx hb dg ht (k H locs ls hP hD hS hl)
theorem j_ifnonnull (K : jOk n cc own ret d κ) {a : Nat} {off : Int} {tgt : Nat} (dg : decode cc pc = .ok (.ifnonnull off, 3)) (ht : (pc : Int) + off = (tgt : Int)) (k : J L n κ X tgt lv st) : J L n κ X pc lv (.ref a :: st) := by
  obtain ⟨p, l, e, R, s, m, args, below, meth, c, D, A, ad, cA, rs, Q⟩ := κ
  obtain ⟨hx, hb, hml, hown, hts, hr0, hlk, hK, hA, hfr, hlo, hN⟩ := K
  intro H locs ls hP hD hS hl
  exact lv_ifnonnull hx hb dg ht (k H locs ls hP hD hS hl)
theorem j_ifnonnullN (K : jOk n cc own ret d κ) {off : Int} (dg : decode cc pc = .ok (.ifnonnull off, 3)) (k : J L n κ X (pc + 3) lv st) : J L n κ X pc lv (.null :: st) := by
  obtain ⟨p, l, e, R, s, m, args, below, meth, c, D, A, ad, cA, rs, Q⟩ := κ
  obtain ⟨hx, hb, hml, hown, hts, hr0, hlk, hK, hA, hfr, hlo, hN⟩ := K
  intro H locs ls hP hD hS hl
  exact lv_ifnonnullN hx hb dg (k H locs ls hP hD hS hl)
theorem wZ_inj {L : Lay} {ad : Nat → Nat} {cA : Nat → ClassId} {X : JX} {rs : va_W} {A : Nat → Prop} (h : va_D A (wZ L ad cA X ++ rs)) {i j : Nat} (hi : i < L.1) (hj : j < L.1) (e : ad i = ad j) : i = j := h.1 i j _ _ (wZ_get hi) (wZ_get hj) e
theorem j_acmp_eq (K : jOk n cc own ret d κ) {x y : Nat} {off : Int} {tgt : Nat} {a b : Option β} (dg : decode cc pc = .ok (.if_acmp .eq off, 3)) (ht : (pc : Int) + off = (tgt : Int)) (h1 : x < L.1) (h2 : y < L.1) (hr : (if x = y then a else b) = some r) (kt : a = some r → J L n κ X tgt lv st) (kf : b = some r → J L n κ X (pc + 3) lv st) : J L n κ X pc lv (.ref (jad κ y) :: .ref (jad κ x) :: st) := by
  obtain ⟨p, l, e, R, s, m, args, below, meth, c, D, A, ad, cA, rs, Q⟩ := κ
  obtain ⟨hx, hb, hml, hown, hts, hr0, hlk, hK, hA, hfr, hlo, hN⟩ := K
  intro H locs ls hP hD hS hl
  exact lv_acmp_eq (rx := some (ad x)) (ry := some (ad y)) hx hb dg ht (fun h => kt (by rw [if_pos (wZ_inj hD h1 h2 (Option.some.inj h))] at hr; exact hr) H locs ls hP hD hS hl) (fun h => kf (by rw [if_neg (fun q => h (by rw [q]))] at hr; exact hr) H locs ls hP hD hS hl)
theorem j_acmp_eqN (K : jOk n cc own ret d κ) {x : Nat} {off : Int} {tgt : Nat} (dg : decode cc pc = .ok (.if_acmp .eq off, 3)) (ht : (pc : Int) + off = (tgt : Int)) (kf : J L n κ X (pc + 3) lv st) : J L n κ X pc lv (.null :: .ref (jad κ x) :: st) := by
  obtain ⟨p, l, e, R, s, m, args, below, meth, c, D, A, ad, cA, rs, Q⟩ := κ
  obtain ⟨hx, hb, hml, hown, hts, hr0, hlk, hK, hA, hfr, hlo, hN⟩ := K
  intro H locs ls hP hD hS hl
  exact lv_acmp_eq (rx := some (ad x)) (ry := none) hx hb dg ht (fun h => nomatch h) (fun h => kf H locs ls hP hD hS hl)
theorem j_guard {c : Prop} [Decidable c] {a : Option β} (hr : (if c then a else none) = some r) (k : c → a = some r → J L n κ X pc lv st) : J L n κ X pc lv st := k (g_if hr).1 (g_if hr).2
theorem j_sub {lv' : List (Nat × Value)} (ks : List Nat) (h : lv_pick lv ks = lv') (k : J L n κ X pc lv' st) : J L n κ X pc lv st := by
  obtain ⟨p, l, e, R, s, m, args, below, meth, c, D, A, ad, cA, rs, Q⟩ := κ
  intro H locs ls hP hD hS hl
  exact k H locs ls hP hD hS (lv_sub hl ks h)
theorem j_loop {T : Type} {f : (T → Option β) → T → Option β} {P : T → Prop} (h : ∀ rec : T → Option β, (∀ s, rec s = some r → P s) → ∀ s, f rec s = some r → P s) : ∀ (n : Nat) (s : T), loopF f n s = some r → P s
  | 0, _, hr => nomatch hr
  | n + 1, s, hr => h (loopF f n) (j_loop h n) s hr
/-- a field's link: class ci, place j -/
def FLk (own : String) (idx ci j : Nat) : Prop := ∃ q : vw_C, vwCl[ci]? = some q ∧ j < q.2.2 ∧ Cond.fieldLink own idx q.1 (q.2.1 j).2.1 (q.2.1 j).2.2.1 ∈ gTbl ∧ (∀ w ∈ u_ws q.1 q.2.1 q.2.2, w ∈ gTbl) ∧ (q.2.1 j).1 = q.1
def FPk (own : String) (idx ci j : Nat) (ty : FieldType) : Prop := ∃ (q : vw_C) (ty0 : Nat → FieldType), vwCl[ci]? = some q ∧ j < q.2.2 ∧ Cond.fieldLink own idx q.1 (q.2.1 j).2.1 (q.2.1 j).2.2.1 ∈ gTbl ∧ (∀ w ∈ u_ws q.1 q.2.1 q.2.2, w ∈ gTbl) ∧ (q.2.1 j).1 = q.1 ∧ (∀ k, k < q.2.2 → parseFieldDescriptor (q.2.1 k).2.2.1 = some (ty0 k)) ∧ (∀ a, a < q.2.2 → ∀ b, b < q.2.2 → a ≠ b → (q.2.1 a).2.1 ≠ (q.2.1 b).2.1) ∧ (q.2.1 j).2.2.2 = false ∧ parseFieldDescriptor (q.2.1 j).2.2.1 = some ty
theorem cZ_ob {L : Lay} {ad : Nat → Nat} {cA : Nat → ClassId} {f : Nat → Int32} {k ci z : Nat} (h : L.2.1 k = (10 + ci, z)) (hc : ci < 90) : cZ L ad cA f k = .inr (ci, L.2.2 ad f k ci) := by
  unfold cZ
  rw [h]
  obtain ⟨c, hc2⟩ : ∃ c, c = 10 + ci := ⟨_, rfl⟩
  rw [← hc2]
  match c, hc2 with
  | 0, e => omega
  | 1, e => omega
  | 2, e => omega
  | 3, e => omega
  | c + 4, e =>
    show (if c + 4 < 100 then _ else _) = _
    rw [if_pos (by omega), e, Nat.add_sub_cancel_left]
theorem cZ_ou {L : Lay} {ad : Nat → Nat} {cA : Nat → ClassId} {f : Nat → Int32} {k b n : Nat} (h : L.2.1 k = (100 + b, n)) : cZ L ad cA f k = .inl (cA 4, (n, .inr (.inr (.inr (.inr (fun j => if j < n then some (ad (b + j)) else none)))))) := by
  unfold cZ
  rw [h]
  obtain ⟨c, hc2⟩ : ∃ c, c = 100 + b := ⟨_, rfl⟩
  rw [← hc2]
  match c, hc2 with
  | 0, e => omega
  | 1, e => omega
  | 2, e => omega
  | 3, e => omega
  | c + 4, e =>
    show (if c + 4 < 100 then _ else _) = _
    rw [if_neg (by omega), e, Nat.add_sub_cancel_left]
theorem cZ_0 {L : Lay} {ad : Nat → Nat} {cA : Nat → ClassId} {f : Nat → Int32} {k n : Nat} (h : L.2.1 k = (0, n)) : cZ L ad cA f k = .inl (cA 0, (n, .inl f)) := by unfold cZ; rw [h]; rfl
theorem cZ_1 {L : Lay} {ad : Nat → Nat} {cA : Nat → ClassId} {f : Nat → Int32} {k n : Nat} (h : L.2.1 k = (1, n)) : cZ L ad cA f k = .inl (cA 1, (n, .inl f)) := by unfold cZ; rw [h]; rfl
theorem cZ_2 {L : Lay} {ad : Nat → Nat} {cA : Nat → ClassId} {f : Nat → Int32} {k n : Nat} (h : L.2.1 k = (2, n)) : cZ L ad cA f k = .inl (cA 2, (n, .inl f)) := by unfold cZ; rw [h]; rfl
theorem cZ_3 {L : Lay} {ad : Nat → Nat} {cA : Nat → ClassId} {f : Nat → Int32} {k n : Nat} (h : L.2.1 k = (3, n)) : cZ L ad cA f k = .inl (cA 3, (n, .inr (.inr (.inr (.inr (fun j => some (ad (f j).toNatClampNeg))))))) := by unfold cZ; rw [h]; rfl
theorem j_get (K : jOk n cc own ret d κ) {idx ci j k z : Nat} {v : Value} (fl : FLk own idx ci j) (hs : L.2.1 k = (10 + ci, z)) (hk : k < L.1) (hc : ci < 90) (hv : (L.2.2 (jad κ) (X k) k ci)[j]? = some v) (dg : decode cc pc = .ok (.getfield idx, 3)) (kk : J L n κ X (pc + 3) lv (v :: st)) : J L n κ X pc lv (.ref (jad κ k) :: st) := by
  obtain ⟨p, l, e, R, s, m, args, below, meth, c, D, A, ad, cA, rs, Q⟩ := κ
  obtain ⟨hx, hb, hml, hown, hts, hr0, hlk, hK, hA, hfr, hlo, hN⟩ := K
  intro H locs ls hP hD hS hl
  obtain ⟨⟨C, T, N⟩, g1, g2, g3, g4, g5⟩ := fl
  have g6 : T j = (C, (T j).2) := Prod.ext g5 rfl
  refine va_get hx hb hts g4 hown hK hP k (by rw [wZ_get hk, cZ_ob hs hc]; rfl) g1 j g2 (hts _ g3) (fun x h => ?_) hv dg (kk H locs ls hP hD hS hl)
  have g7 : (T j).1 = C := g5
  rw [g7] at h; exact h
theorem j_puti (K : jOk n cc own ret d κ) {idx ci j k z : Nat} {v : Int32} (fl : FPk own idx ci j .int) (hs : L.2.1 k = (10 + ci, z)) (hk : k < L.1) (hc : ci < 90) (hl9 : ∀ f, j < (L.2.2 (jad κ) f k ci).length) (hv : ∀ f, (L.2.2 (jad κ) f k ci).set j (.int v) = L.2.2 (jad κ) (upd f j v) k ci) (dg : decode cc pc = .ok (.putfield idx, 3)) (kk : J L n κ (pX X k (upd (X k) j v)) (pc + 3) lv st) : J L n κ X pc lv (.int v :: .ref (jad κ k) :: st) := by
  obtain ⟨p, l, e, R, s, m, args, below, meth, c, D, A, ad, cA, rs, Q⟩ := κ
  obtain ⟨hx, hb, hml, hown, hts, hr0, hlk, hK, hA, hfr, hlo, hN⟩ := K
  intro H locs ls hP hD hS hl
  obtain ⟨⟨C, T, N⟩, ty0, g1, g2, g3, g4, g5, g6, g7, g8, g9⟩ := fl
  refine va_put hx hb hts g4 ty0 g6 g7 hown hK hP hD hS k (by rw [wZ_get hk, cZ_ob hs hc]; rfl) g1 j g2 (hts _ g3) (fun x h => ?_) g8 g9 rfl rfl (hl9 _) dg (fun H locs hP hD hS => ?_)
  · have g7 : (T j).1 = C := g5
    rw [g7] at h; exact h
  · have e : (jad (p, l, e, R, s, m, args, below, meth, c, D, A, ad, cA, rs, Q) k, (Sum.inr (ci, (L.2.2 (jad (p, l, e, R, s, m, args, below, meth, c, D, A, ad, cA, rs, Q)) (X k) k ci).set j (Value.int v)) : va_E)) = (ad k, cZ L ad cA (pX X k (upd (X k) j v) k) k) := by
      rw [hv, pX_self, cZ_ob hs hc]; rfl
    rw [e, wZ_set hk (fun q h => pX_ne X _ h)] at hP hD
    exact kk H locs ls hP hD hS hl
theorem j_putz (K : jOk n cc own ret d κ) {idx ci j k z : Nat} {v : Int32} (fl : FPk own idx ci j .boolean) (hs : L.2.1 k = (10 + ci, z)) (hk : k < L.1) (hc : ci < 90) (hl9 : ∀ f, j < (L.2.2 (jad κ) f k ci).length) (hv : ∀ f, (L.2.2 (jad κ) f k ci).set j (.int v) = L.2.2 (jad κ) (upd f j v) k ci) (hz : okB v = true) (dg : decode cc pc = .ok (.putfield idx, 3)) (kk : J L n κ (pX X k (upd (X k) j v)) (pc + 3) lv st) : J L n κ X pc lv (.int v :: .ref (jad κ k) :: st) := by
  obtain ⟨p, l, e, R, s, m, args, below, meth, c, D, A, ad, cA, rs, Q⟩ := κ
  obtain ⟨hx, hb, hml, hown, hts, hr0, hlk, hK, hA, hfr, hlo, hN⟩ := K
  intro H locs ls hP hD hS hl
  obtain ⟨⟨C, T, N⟩, ty0, g1, g2, g3, g4, g5, g6, g7, g8, g9⟩ := fl
  refine va_put hx hb hts g4 ty0 g6 g7 hown hK hP hD hS k (by rw [wZ_get hk, cZ_ob hs hc]; rfl) g1 j g2 (hts _ g3) (fun x h => ?_) g8 g9 (okB_n hz) (okB_f hz) (hl9 _) dg (fun H locs hP hD hS => ?_)
  · have g7 : (T j).1 = C := g5
    rw [g7] at h; exact h
  · have e : (jad (p, l, e, R, s, m, args, below, meth, c, D, A, ad, cA, rs, Q) k, (Sum.inr (ci, (L.2.2 (jad (p, l, e, R, s, m, args, below, meth, c, D, A, ad, cA, rs, Q)) (X k) k ci).set j (Value.int v)) : va_E)) = (ad k, cZ L ad cA (pX X k (upd (X k) j v) k) k) := by
      rw [hv, pX_self, cZ_ob hs hc]; rfl
    rw [e, wZ_set hk (fun q h => pX_ne X _ h)] at hP hD
    exact kk H locs ls hP hD hS hl
def FLn (own : String) (idx ci j : Nat) : Prop := ∃ q : vw_C, vwCl[ci]? = some q ∧ j < q.2.2 ∧ (own, idx, q.1, (q.2.1 j).2.1, (q.2.1 j).2.2.1) ∈ nestF ∧ (∀ w ∈ u_ws q.1 q.2.1 q.2.2, w ∈ gTbl) ∧ (q.2.1 j).1 = q.1
def FPn (own : String) (idx ci j : Nat) (ty : FieldType) : Prop := ∃ (q : vw_C) (ty0 : Nat → FieldType), vwCl[ci]? = some q ∧ j < q.2.2 ∧ (own, idx, q.1, (q.2.1 j).2.1, (q.2.1 j).2.2.1) ∈ nestF ∧ (∀ w ∈ u_ws q.1 q.2.1 q.2.2, w ∈ gTbl) ∧ (q.2.1 j).1 = q.1 ∧ (∀ k, k < q.2.2 → parseFieldDescriptor (q.2.1 k).2.2.1 = some (ty0 k)) ∧ (∀ a, a < q.2.2 → ∀ b, b < q.2.2 → a ≠ b → (q.2.1 a).2.1 ≠ (q.2.1 b).2.1) ∧ (q.2.1 j).2.2.2 = false ∧ parseFieldDescriptor (q.2.1 j).2.2.1 = some ty
theorem j_getN (K : jOk n cc own ret d κ) {idx ci j k z : Nat} {v : Value} (fl : FLn own idx ci j) (hs : L.2.1 k = (10 + ci, z)) (hk : k < L.1) (hc : ci < 90) (hv : (L.2.2 (jad κ) (X k) k ci)[j]? = some v) (dg : decode cc pc = .ok (.getfield idx, 3)) (kk : J L n κ X (pc + 3) lv (v :: st)) : J L n κ X pc lv (.ref (jad κ k) :: st) := by
  obtain ⟨p, l, e, R, s, m, args, below, meth, c, D, A, ad, cA, rs, Q⟩ := κ
  obtain ⟨hx, hb, hml, hown, hts, hr0, hlk, hK, hA, hfr, hlo, hN⟩ := K
  intro H locs ls hP hD hS hl
  obtain ⟨⟨C, T, N⟩, g1, g2, g3, g4, g5⟩ := fl
  have h8 := hN.1 _ g3
  refine va_getN hx hb hts g4 hown hK hP k (by rw [wZ_get hk, cZ_ob hs hc]; rfl) g1 j g2 (va_Nw.use rfl h8) (fun x h => ?_) hv dg (kk H locs ls hP hD hS hl)
  have g7 : (T j).1 = C := g5
  rw [g7] at h; exact h
theorem j_putiN (K : jOk n cc own ret d κ) {idx ci j k z : Nat} {v : Int32} (fl : FPn own idx ci j .int) (hs : L.2.1 k = (10 + ci, z)) (hk : k < L.1) (hc : ci < 90) (hl9 : ∀ f, j < (L.2.2 (jad κ) f k ci).length) (hv : ∀ f, (L.2.2 (jad κ) f k ci).set j (.int v) = L.2.2 (jad κ) (upd f j v) k ci) (dg : decode cc pc = .ok (.putfield idx, 3)) (kk : J L n κ (pX X k (upd (X k) j v)) (pc + 3) lv st) : J L n κ X pc lv (.int v :: .ref (jad κ k) :: st) := by
  obtain ⟨p, l, e, R, s, m, args, below, meth, c, D, A, ad, cA, rs, Q⟩ := κ
  obtain ⟨hx, hb, hml, hown, hts, hr0, hlk, hK, hA, hfr, hlo, hN⟩ := K
  intro H locs ls hP hD hS hl
  obtain ⟨⟨C, T, N⟩, ty0, g1, g2, g3, g4, g5, g6, g7, g8, g9⟩ := fl
  have h8 := hN.1 _ g3
  refine va_putN hx hb hts g4 ty0 g6 g7 hown hK hP hD hS k (by rw [wZ_get hk, cZ_ob hs hc]; rfl) g1 j g2 (va_Nw.use rfl h8) (fun x h => ?_) g8 g9 rfl rfl (hl9 _) dg (fun H locs hP hD hS => ?_)
  · have g7 : (T j).1 = C := g5
    rw [g7] at h; exact h
  · have e : (jad (p, l, e, R, s, m, args, below, meth, c, D, A, ad, cA, rs, Q) k, (Sum.inr (ci, (L.2.2 (jad (p, l, e, R, s, m, args, below, meth, c, D, A, ad, cA, rs, Q)) (X k) k ci).set j (Value.int v)) : va_E)) = (ad k, cZ L ad cA (pX X k (upd (X k) j v) k) k) := by
      rw [hv, pX_self, cZ_ob hs hc]; rfl
    rw [e, wZ_set hk (fun q h => pX_ne X _ h)] at hP hD
    exact kk H locs ls hP hD hS hl
theorem j_putzN (K : jOk n cc own ret d κ) {idx ci j k z : Nat} {v : Int32} (fl : FPn own idx ci j .boolean) (hs : L.2.1 k = (10 + ci, z)) (hk : k < L.1) (hc : ci < 90) (hl9 : ∀ f, j < (L.2.2 (jad κ) f k ci).length) (hv : ∀ f, (L.2.2 (jad κ) f k ci).set j (.int v) = L.2.2 (jad κ) (upd f j v) k ci) (hz : okB v = true) (dg : decode cc pc = .ok (.putfield idx, 3)) (kk : J L n κ (pX X k (upd (X k) j v)) (pc + 3) lv st) : J L n κ X pc lv (.int v :: .ref (jad κ k) :: st) := by
  obtain ⟨p, l, e, R, s, m, args, below, meth, c, D, A, ad, cA, rs, Q⟩ := κ
  obtain ⟨hx, hb, hml, hown, hts, hr0, hlk, hK, hA, hfr, hlo, hN⟩ := K
  intro H locs ls hP hD hS hl
  obtain ⟨⟨C, T, N⟩, ty0, g1, g2, g3, g4, g5, g6, g7, g8, g9⟩ := fl
  have h8 := hN.1 _ g3
  refine va_putN hx hb hts g4 ty0 g6 g7 hown hK hP hD hS k (by rw [wZ_get hk, cZ_ob hs hc]; rfl) g1 j g2 (va_Nw.use rfl h8) (fun x h => ?_) g8 g9 (okB_n hz) (okB_f hz) (hl9 _) dg (fun H locs hP hD hS => ?_)
  · have g7 : (T j).1 = C := g5
    rw [g7] at h; exact h
  · have e : (jad (p, l, e, R, s, m, args, below, meth, c, D, A, ad, cA, rs, Q) k, (Sum.inr (ci, (L.2.2 (jad (p, l, e, R, s, m, args, below, meth, c, D, A, ad, cA, rs, Q)) (X k) k ci).set j (Value.int v)) : va_E)) = (ad k, cZ L ad cA (pX X k (upd (X k) j v) k) k) := by
      rw [hv, pX_self, cZ_ob hs hc]; rfl
    rw [e, wZ_set hk (fun q h => pX_ne X _ h)] at hP hD
    exact kk H locs ls hP hD hS hl
theorem j_iaload (K : jOk n cc own ret d κ) {k z : Nat} {i : Int32} {a : Option β} (hs : L.2.1 k = (0, z)) (hk : k < L.1) (dg : decode cc pc = .ok (.iaload, 1)) (hr : (if okI i z = true then a else none) = some r) (kk : a = some r → J L n κ X (pc + 1) lv (.int (X k i.toNatClampNeg) :: st)) : J L n κ X pc lv (.int i :: .ref (jad κ k) :: st) := by
  obtain ⟨p, l, e, R, s, m, args, below, meth, c, D, A, ad, cA, rs, Q⟩ := κ
  obtain ⟨hx, hb, hml, hown, hts, hr0, hlk, hK, hA, hfr, hlo, hN⟩ := K
  intro H locs ls hP hD hS hl
  obtain ⟨h1, h2⟩ := g_if hr
  exact va_iald hx hb hK hP k 0 (by rw [wZ_get hk, cZ_0 hs]; rfl) rfl (okI_in h1) dg (kk h2 H locs ls hP hD hS hl)
theorem j_baload (K : jOk n cc own ret d κ) {k z : Nat} {i : Int32} {a : Option β} (hs : L.2.1 k = (1, z)) (hk : k < L.1) (dg : decode cc pc = .ok (.baload, 1)) (hr : (if okI i z = true then a else none) = some r) (kk : a = some r → J L n κ X (pc + 1) lv (.int (X k i.toNatClampNeg) :: st)) : J L n κ X pc lv (.int i :: .ref (jad κ k) :: st) := by
  obtain ⟨p, l, e, R, s, m, args, below, meth, c, D, A, ad, cA, rs, Q⟩ := κ
  obtain ⟨hx, hb, hml, hown, hts, hr0, hlk, hK, hA, hfr, hlo, hN⟩ := K
  intro H locs ls hP hD hS hl
  obtain ⟨h1, h2⟩ := g_if hr
  exact va_zald hx hb hK hP k 1 (by rw [wZ_get hk, cZ_1 hs]; rfl) rfl (okI_in h1) dg (kk h2 H locs ls hP hD hS hl)
theorem j_caload (K : jOk n cc own ret d κ) {k z : Nat} {i : Int32} {a : Option β} (hs : L.2.1 k = (2, z)) (hk : k < L.1) (dg : decode cc pc = .ok (.caload, 1)) (hr : (if okI i z = true then a else none) = some r) (kk : a = some r → J L n κ X (pc + 1) lv (.int (X k i.toNatClampNeg) :: st)) : J L n κ X pc lv (.int i :: .ref (jad κ k) :: st) := by
  obtain ⟨p, l, e, R, s, m, args, below, meth, c, D, A, ad, cA, rs, Q⟩ := κ
  obtain ⟨hx, hb, hml, hown, hts, hr0, hlk, hK, hA, hfr, hlo, hN⟩ := K
  intro H locs ls hP hD hS hl
  obtain ⟨h1, h2⟩ := g_if hr
  exact va_cald hx hb hK hP k 2 (by rw [wZ_get hk, cZ_2 hs]; rfl) rfl (okI_in h1) dg (kk h2 H locs ls hP hD hS hl)
theorem j_iastore (K : jOk n cc own ret d κ) {k z : Nat} {i v : Int32} {a : Option β} (hs : L.2.1 k = (0, z)) (hk : k < L.1) (dg : decode cc pc = .ok (.iastore, 1)) (hr : (if okI i z = true then a else none) = some r) (kk : a = some r → J L n κ (pX X k (upd (X k) i.toNatClampNeg v)) (pc + 1) lv st) : J L n κ X pc lv (.int v :: .int i :: .ref (jad κ k) :: st) := by
  obtain ⟨p, l, e, R, s, m, args, below, meth, c, D, A, ad, cA, rs, Q⟩ := κ
  obtain ⟨hx, hb, hml, hown, hts, hr0, hlk, hK, hA, hfr, hlo, hN⟩ := K
  intro H locs ls hP hD hS hl
  obtain ⟨h1, h2⟩ := g_if hr
  refine va_iast hx hb hK hP hD hS k 0 (by rw [wZ_get hk, cZ_0 hs]; rfl) rfl (okI_in h1) dg (fun H locs hP hD hS => ?_)
  have e : (jad (p, l, e, R, s, m, args, below, meth, c, D, A, ad, cA, rs, Q) k, (Sum.inl (cA 0, z, Sum.inl (upd (X k) i.toNatClampNeg v)) : va_E)) = (ad k, cZ L ad cA (pX X k (upd (X k) i.toNatClampNeg v) k) k) := by
    rw [pX_self, cZ_0 hs]; rfl
  rw [e, wZ_set hk (fun q h => pX_ne X _ h)] at hP hD
  exact kk h2 H locs ls hP hD hS hl
theorem j_bastore (K : jOk n cc own ret d κ) {k z : Nat} {i v : Int32} {a : Option β} (hs : L.2.1 k = (1, z)) (hk : k < L.1) (dg : decode cc pc = .ok (.bastore, 1)) (hr : (if okI i z = true then a else none) = some r) (kk : a = some r → J L n κ (pX X k (upd (X k) i.toNatClampNeg (vp_nar .boolean v))) (pc + 1) lv st) : J L n κ X pc lv (.int v :: .int i :: .ref (jad κ k) :: st) := by
  obtain ⟨p, l, e, R, s, m, args, below, meth, c, D, A, ad, cA, rs, Q⟩ := κ
  obtain ⟨hx, hb, hml, hown, hts, hr0, hlk, hK, hA, hfr, hlo, hN⟩ := K
  intro H locs ls hP hD hS hl
  obtain ⟨h1, h2⟩ := g_if hr
  refine va_zast hx hb hK hP hD hS k 1 (by rw [wZ_get hk, cZ_1 hs]; rfl) rfl (okI_in h1) dg (fun H locs hP hD hS => ?_)
  have e : (jad (p, l, e, R, s, m, args, below, meth, c, D, A, ad, cA, rs, Q) k, (Sum.inl (cA 1, z, Sum.inl (upd (X k) i.toNatClampNeg (vp_nar .boolean v))) : va_E)) = (ad k, cZ L ad cA (pX X k (upd (X k) i.toNatClampNeg (vp_nar .boolean v)) k) k) := by
    rw [pX_self, cZ_1 hs]; rfl
  rw [e, wZ_set hk (fun q h => pX_ne X _ h)] at hP hD
  exact kk h2 H locs ls hP hD hS hl
theorem j_castore (K : jOk n cc own ret d κ) {k z : Nat} {i v : Int32} {a : Option β} (hs : L.2.1 k = (2, z)) (hk : k < L.1) (dg : decode cc pc = .ok (.castore, 1)) (hr : (if okI i z = true then a else none) = some r) (kk : a = some r → J L n κ (pX X k (upd (X k) i.toNatClampNeg (vp_nar .char v))) (pc + 1) lv st) : J L n κ X pc lv (.int v :: .int i :: .ref (jad κ k) :: st) := by
  obtain ⟨p, l, e, R, s, m, args, below, meth, c, D, A, ad, cA, rs, Q⟩ := κ
  obtain ⟨hx, hb, hml, hown, hts, hr0, hlk, hK, hA, hfr, hlo, hN⟩ := K
  intro H locs ls hP hD hS hl
  obtain ⟨h1, h2⟩ := g_if hr
  refine va_cast hx hb hK hP hD hS k 2 (by rw [wZ_get hk, cZ_2 hs]; rfl) rfl (okI_in h1) dg (fun H locs hP hD hS => ?_)
  have e : (jad (p, l, e, R, s, m, args, below, meth, c, D, A, ad, cA, rs, Q) k, (Sum.inl (cA 2, z, Sum.inl (upd (X k) i.toNatClampNeg (vp_nar .char v))) : va_E)) = (ad k, cZ L ad cA (pX X k (upd (X k) i.toNatClampNeg (vp_nar .char v)) k) k) := by
    rw [pX_self, cZ_2 hs]; rfl
  rw [e, wZ_set hk (fun q h => pX_ne X _ h)] at hP hD
  exact kk h2 H locs ls hP hD hS hl
theorem j_aaload3 (K : jOk n cc own ret d κ) {k z : Nat} {i : Int32} {a : Option β} (hs : L.2.1 k = (3, z)) (hk : k < L.1) (dg : decode cc pc = .ok (.aaload, 1)) (hr : (if okI i z = true then a else none) = some r) (kk : a = some r → J L n κ X (pc + 1) lv (.ref (jad κ (X k i.toNatClampNeg).toNatClampNeg) :: st)) : J L n κ X pc lv (.int i :: .ref (jad κ k) :: st) := by
  obtain ⟨p, l, e, R, s, m, args, below, meth, c, D, A, ad, cA, rs, Q⟩ := κ
  obtain ⟨hx, hb, hml, hown, hts, hr0, hlk, hK, hA, hfr, hlo, hN⟩ := K
  intro H locs ls hP hD hS hl
  obtain ⟨h1, h2⟩ := g_if hr
  exact va_aldq (f := fun j => some (ad (X k j).toNatClampNeg)) hx hb hK hP k 3 (by rw [wZ_get hk, cZ_3 hs]; rfl) rfl (okI_in h1) dg (kk h2 H locs ls hP hD hS hl)
theorem j_aastore3 (K : jOk n cc own ret d κ) {k z u ci y : Nat} {i : Int32} {a : Option β} (hs : L.2.1 k = (3, z)) (hk : k < L.1) (hu : L.2.1 u = (10 + ci, y)) (hku : u < L.1) (hc : ci < 90) (hcl : ∃ q : vw_C, vwCl[ci]? = some q ∧ q.1 = "SearchKeeper$Root") (h31 : u < 2 ^ 31) (dg : decode cc pc = .ok (.aastore, 1)) (hr : (if okI i z = true then a else none) = some r) (kk : a = some r → J L n κ (pX X k (upd (X k) i.toNatClampNeg (nI u))) (pc + 1) lv st) : J L n κ X pc lv (.ref (jad κ u) :: .int i :: .ref (jad κ k) :: st) := by
  obtain ⟨p, l, e, R, s, m, args, below, meth, c, D, A, ad, cA, rs, Q⟩ := κ
  obtain ⟨hx, hb, hml, hown, hts, hr0, hlk, hK, hA, hfr, hlo, hN⟩ := K
  intro H locs ls hP hD hS hl
  obtain ⟨h1, h2⟩ := g_if hr
  obtain ⟨⟨C, T, N⟩, g1, g2⟩ := hcl
  refine va_astq hx hb hK hP hD hS k 3 u ci (by rw [wZ_get hk, cZ_3 hs]; rfl) (by rw [show (C, T, N).1 = "SearchKeeper$Root" from g2]; rfl) (by rw [wZ_get hku, cZ_ob hu hc]; rfl) g1 (okI_in h1) dg (fun H locs hP hD hS => ?_)
  have e : (jad (p, l, e, R, s, m, args, below, meth, c, D, A, ad, cA, rs, Q) k, (Sum.inl (cA 3, z, Sum.inr (Sum.inr (Sum.inr (Sum.inr (va_up (fun j => some (ad (X k j).toNatClampNeg)) i.toNatClampNeg (some (jad (p, l, e, R, s, m, args, below, meth, c, D, A, ad, cA, rs, Q) u))))))) : va_E)) = (ad k, cZ L ad cA (pX X k (upd (X k) i.toNatClampNeg (nI u)) k) k) := by
    rw [pX_self, cZ_3 hs]
    refine congrArg (fun f => (ad k, (Sum.inl (cA 3, z, Sum.inr (Sum.inr (Sum.inr (Sum.inr f)))) : va_E))) (funext fun j => ?_)
    by_cases hj : j = i.toNatClampNeg
    · rw [hj, va_up_self, pk_us, nI_clamp h31]; rfl
    · rw [va_up_ne _ _ hj, pk_un hj]
  rw [e, wZ_set hk (fun q h => pX_ne X _ h)] at hP hD
  exact kk h2 H locs ls hP hD hS hl
theorem j_aaload4 (K : jOk n cc own ret d κ) {k z b : Nat} {i : Int32} {a : Option β} (hs : L.2.1 k = (100 + b, z)) (hk : k < L.1) (dg : decode cc pc = .ok (.aaload, 1)) (hr : (if okI i z = true then a else none) = some r) (kk : a = some r → J L n κ X (pc + 1) lv (.ref (jad κ (b + i.toNatClampNeg)) :: st)) : J L n κ X pc lv (.int i :: .ref (jad κ k) :: st) := by
  obtain ⟨p, l, e, R, s, m, args, below, meth, c, D, A, ad, cA, rs, Q⟩ := κ
  obtain ⟨hx, hb, hml, hown, hts, hr0, hlk, hK, hA, hfr, hlo, hN⟩ := K
  intro H locs ls hP hD hS hl
  obtain ⟨h1, h2⟩ := g_if hr
  have h8 := hP k _ (show (wZ L ad cA X ++ rs)[k]? = some (ad k, .inl (cA 4, (z, .inr (.inr (.inr (.inr (fun j => if j < z then some (ad (b + j)) else none))))))) by rw [wZ_get hk, cZ_ou hs])
  have h9 := W.aald (p := p) (l := l) (e := e) (R := R) (s := s) (m := m) (args := args) (below := below) (meth := meth) (c := c) (locs := locs) (cells := 0) (slots := 0) (Q := Q) (v := .ref (ad (b + i.toNatClampNeg))) (ty := .array .int) hx hb h8 ((hK.2 4 _ rfl).1 z (fun j => va_rf (if j < z then some (ad (b + j)) else none))) rfl (fun q => by cases q) (j := i) (by show ¬ (i < 0 ∨ (arrV _ _ _).slots.size ≤ _); rw [arrV_size]; exact okI_in h1) (by show (arrV _ _ _).slots[_]? = _; rw [arrV_read _ _ (okI_lt h1)]; simp only [if_pos (okI_lt h1)]; rfl) (g := F0 m pc ls (.int i :: .ref (ad k) :: st)) rfl rfl dg (kk h2 H locs ls hP hD hS hl)
  exact h9
theorem j_alen0 (K : jOk n cc own ret d κ) {k z : Nat} {v : Int32} (hs : L.2.1 k = (0, z)) (hk : k < L.1) (hv : Int32.ofNat z = v) (dg : decode cc pc = .ok (.arraylength, 1)) (kk : J L n κ X (pc + 1) lv (.int v :: st)) : J L n κ X pc lv (.ref (jad κ k) :: st) := by
  obtain ⟨p, l, e, R, s, m, args, below, meth, c, D, A, ad, cA, rs, Q⟩ := κ
  obtain ⟨hx, hb, hml, hown, hts, hr0, hlk, hK, hA, hfr, hlo, hN⟩ := K
  intro H locs ls hP hD hS hl
  exact va_alen hx hb hK hP k 0 (by rw [wZ_get hk, cZ_0 hs]; rfl) rfl (by exact hv) dg (kk H locs ls hP hD hS hl)
theorem jFin_ret {x : JE} {thr : Bool} {p : Program} {l : Launch} {e : Env} {R : Room} {s : State} {m : MethodId} {args : Array Value} {below : List Frame} {meth : Method} {c : Code} {D : va_G} {A : Nat → Prop} {ad : Nat → Nat} {cA : Nat → ClassId} {rs : va_W} {Q : State → Prop} {H : Heap} {locs : List Loc} {g : JFrame}
    (F : jFin L thr x (p, l, e, R, s, m, args, below, meth, c, D, A, ad, cA, rs, Q)) (k : ∀ kc ks, W p l e R s m args below meth c H locs kc ks (MQ below (jQc L D ad cA rs A x) args s kc ks A) g) : W p l e R s m args below meth c H locs 0 0 Q g := by
  unfold jFin at F
  cases thr with
  | false =>
    have F : Q = _ := F
    rw [F]; exact k 0 0
  | true =>
    have F : Q = _ ∧ _ := F
    rw [F.1]
    exact W.widen (k := 1) (n := 6) (Nat.zero_le _) (Nat.zero_le _) (vx_ret (k 1 6))
theorem j_ireturn (K : jOk n cc own ret d κ) {thr : Bool} {out : β → JE} {ρ : β} {v : Int32} (dg : decode cc pc = .ok (.ireturn, 1)) (hi : ret = some .int) (F : jFin L thr (out r) κ) (hr : some ρ = some r) (ho : out ρ = (none, some (.int v), X)) : J L n κ X pc lv [.int v] := by
  obtain ⟨p, l, e, R, s, m, args, below, meth, c, D, A, ad, cA, rs, Q⟩ := κ
  obtain ⟨hx, hb, hml, hown, hts, hr0, hlk, hK, hA, hfr, hlo, hN⟩ := K
  intro H locs ls hP hD hS hl
  cases hr
  rw [ho] at F
  exact jFin_ret F (fun kc ks => W.iret hx hb (hr0.trans hi) (fun t ht hW => ⟨⟨rfl, rfl, by rw [ht]; exact hP⟩, hS.F ht⟩) hS.2.2 dg hlk)
theorem j_zreturn (K : jOk n cc own ret d κ) {thr : Bool} {out : β → JE} {ρ : β} {v : Int32} (dg : decode cc pc = .ok (.ireturn, 1)) (hi : ret = some .boolean) (hz : okB v = true) (F : jFin L thr (out r) κ) (hr : some ρ = some r) (ho : out ρ = (none, some (.int v), X)) : J L n κ X pc lv [.int v] := by
  obtain ⟨p, l, e, R, s, m, args, below, meth, c, D, A, ad, cA, rs, Q⟩ := κ
  obtain ⟨hx, hb, hml, hown, hts, hr0, hlk, hK, hA, hfr, hlo, hN⟩ := K
  intro H locs ls hP hD hS hl
  cases hr
  rw [ho] at F
  exact jFin_ret F (fun kc ks => W.zret hx hb (hr0.trans hi) (okB_n hz) (fun t ht hW => ⟨⟨rfl, rfl, by rw [ht]; exact hP⟩, hS.F ht⟩) hS.2.2 dg hlk)
theorem j_creturn (K : jOk n cc own ret d κ) {thr : Bool} {out : β → JE} {ρ : β} {v : Int32} (dg : decode cc pc = .ok (.ireturn, 1)) (hi : ret = some .char) (hz : vp_nar .char v = v) (F : jFin L thr (out r) κ) (hr : some ρ = some r) (ho : out ρ = (none, some (.int v), X)) : J L n κ X pc lv [.int v] := by
  obtain ⟨p, l, e, R, s, m, args, below, meth, c, D, A, ad, cA, rs, Q⟩ := κ
  obtain ⟨hx, hb, hml, hown, hts, hr0, hlk, hK, hA, hfr, hlo, hN⟩ := K
  intro H locs ls hP hD hS hl
  cases hr
  rw [ho] at F
  exact jFin_ret F (fun kc ks => W.zret hx hb (hr0.trans hi) (by have h9 : narrow .char (.int v) = .int (vp_nar .char v) := rfl; rw [h9, hz]) (fun t ht hW => ⟨⟨rfl, rfl, by rw [ht]; exact hP⟩, hS.F ht⟩) hS.2.2 dg hlk)
theorem j_return (K : jOk n cc own ret d κ) {thr : Bool} {out : β → JE} {ρ : β} (dg : decode cc pc = .ok (.return_, 1)) (hi : ret = none) (F : jFin L thr (out r) κ) (hr : some ρ = some r) (ho : out ρ = (none, none, X)) : J L n κ X pc lv [] := by
  obtain ⟨p, l, e, R, s, m, args, below, meth, c, D, A, ad, cA, rs, Q⟩ := κ
  obtain ⟨hx, hb, hml, hown, hts, hr0, hlk, hK, hA, hfr, hlo, hN⟩ := K
  intro H locs ls hP hD hS hl
  cases hr
  rw [ho] at F
  exact jFin_ret F (fun kc ks => W.vret hx hb (hr0.trans hi) (fun t ht hW => ⟨⟨rfl, rfl, by rw [ht]; exact hP⟩, hS.F ht⟩) hS.2.2 dg hlk)
theorem j_areturn (K : jOk n cc own ret d κ) {thr : Bool} {out : β → JE} {ρ : β} {q : Nat} {rt : FieldType} (dg : decode cc pc = .ok (.areturn, 1)) (hi : ret = some rt) (hrt : (∃ n, rt = .object n) ∨ ∃ t, rt = .array t) (F : jFin L thr (out r) κ) (hr : some ρ = some r) (ho : out ρ = (none, some (.ref (jad κ q)), X)) : J L n κ X pc lv [.ref (jad κ q)] := by
  obtain ⟨p, l, e, R, s, m, args, below, meth, c, D, A, ad, cA, rs, Q⟩ := κ
  obtain ⟨hx, hb, hml, hown, hts, hr0, hlk, hK, hA, hfr, hlo, hN⟩ := K
  intro H locs ls hP hD hS hl
  cases hr
  rw [ho] at F
  exact jFin_ret F (fun kc ks => W.aret hx hb (hr0.trans hi) hrt (Or.inr ⟨_, rfl⟩) (fun t ht hW => ⟨⟨rfl, rfl, by rw [ht]; exact hP⟩, hS.F ht⟩) hS.2.2 dg hlk)
theorem j_areturnN (K : jOk n cc own ret d κ) {thr : Bool} {out : β → JE} {ρ : β} {rt : FieldType} (dg : decode cc pc = .ok (.areturn, 1)) (hi : ret = some rt) (hrt : (∃ n, rt = .object n) ∨ ∃ t, rt = .array t) (F : jFin L thr (out r) κ) (hr : some ρ = some r) (ho : out ρ = (none, some .null, X)) : J L n κ X pc lv [.null] := by
  obtain ⟨p, l, e, R, s, m, args, below, meth, c, D, A, ad, cA, rs, Q⟩ := κ
  obtain ⟨hx, hb, hml, hown, hts, hr0, hlk, hK, hA, hfr, hlo, hN⟩ := K
  intro H locs ls hP hD hS hl
  cases hr
  rw [ho] at F
  exact jFin_ret F (fun kc ks => W.aret hx hb (hr0.trans hi) hrt (Or.inl rfl) (fun t ht hW => ⟨⟨rfl, rfl, by rw [ht]; exact hP⟩, hS.F ht⟩) hS.2.2 dg hlk)
theorem j_max (K : jOk n cc own ret d κ) {x y : Int32} {idx : Nat} (ml : Cond.methodLink own idx Lib.Math.max.name ∈ gTbl ∧ Cond.static Lib.Math.max.name ∈ gTbl ∧ Cond.initialized "java/lang/Math" ∈ gTbl ∧ Cond.code Lib.Math.max.name Lib.Math.max.code 2 (some .int) ∈ gTbl) (hd : 1 ≤ d) (hst : (st.map fun v => v.category).sum ≤ 8) (dg : decode cc pc = .ok (.invokestatic idx, 3)) (kk : J L n κ X (pc + 3) lv (.int (if x < y then y else x) :: st)) : J L n κ X pc lv (.int y :: .int x :: st) := by
  obtain ⟨p, l, e, R, s, m, args, below, meth, c, D, A, ad, cA, rs, Q⟩ := κ
  obtain ⟨hx, hb, hml, hown, hts, hr0, hlk, hK, hA, hfr, hlo, hN⟩ := K
  intro H locs ls hP hD hS hl
  exact va_mmax hx hb (hml.trans hl.1.symm) hown (hts _ ml.1) (hts _ ml.2.1) (hts _ ml.2.2.1) (hts _ ml.2.2.2) (by omega) (by omega) (Nat.zero_le _) (Nat.zero_le _) dg (kk H locs ls hP hD hS hl)
theorem j_min (K : jOk n cc own ret d κ) {x y : Int32} {idx : Nat} (ml : Cond.methodLink own idx Lib.Math.min.name ∈ gTbl ∧ Cond.static Lib.Math.min.name ∈ gTbl ∧ Cond.initialized "java/lang/Math" ∈ gTbl ∧ Cond.code Lib.Math.min.name Lib.Math.min.code 2 (some .int) ∈ gTbl) (hd : 1 ≤ d) (hst : (st.map fun v => v.category).sum ≤ 8) (dg : decode cc pc = .ok (.invokestatic idx, 3)) (kk : J L n κ X (pc + 3) lv (.int (if y < x then y else x) :: st)) : J L n κ X pc lv (.int y :: .int x :: st) := by
  obtain ⟨p, l, e, R, s, m, args, below, meth, c, D, A, ad, cA, rs, Q⟩ := κ
  obtain ⟨hx, hb, hml, hown, hts, hr0, hlk, hK, hA, hfr, hlo, hN⟩ := K
  intro H locs ls hP hD hS hl
  exact va_mmin hx hb (hml.trans hl.1.symm) hown (hts _ ml.1) (hts _ ml.2.1) (hts _ ml.2.2.1) (hts _ ml.2.2.2) (by omega) (by omega) (Nat.zero_le _) (Nat.zero_le _) dg (kk H locs ls hP hD hS hl)
theorem j_abs (K : jOk n cc own ret d κ) {x : Int32} {idx : Nat} (ml : Cond.methodLink own idx Lib.Math.abs.name ∈ gTbl ∧ Cond.static Lib.Math.abs.name ∈ gTbl ∧ Cond.initialized "java/lang/Math" ∈ gTbl ∧ Cond.code Lib.Math.abs.name Lib.Math.abs.code 1 (some .int) ∈ gTbl) (hd : 1 ≤ d) (hst : (st.map fun v => v.category).sum ≤ 8) (dg : decode cc pc = .ok (.invokestatic idx, 3)) (kk : J L n κ X (pc + 3) lv (.int (if 0 ≤ x then x else 0 - x) :: st)) : J L n κ X pc lv (.int x :: st) := by
  obtain ⟨p, l, e, R, s, m, args, below, meth, c, D, A, ad, cA, rs, Q⟩ := κ
  obtain ⟨hx, hb, hml, hown, hts, hr0, hlk, hK, hA, hfr, hlo, hN⟩ := K
  intro H locs ls hP hD hS hl
  exact va_mabs hx hb (hml.trans hl.1.symm) hown (hts _ ml.1) (hts _ ml.2.1) (hts _ ml.2.2.1) (hts _ ml.2.2.2) (by omega) (by omega) (Nat.zero_le _) (Nat.zero_le _) dg (kk H locs ls hP hD hS hl)
def nX {α : Type} (X : JX) (f : JX → α) : α := f X
def nV {α : Type} (v : Int32) (f : Int32 → α) : α := f v
def nN {α : Type} (q : Nat) (f : Nat → α) : α := f q
theorem j_istoreV_n (K : jOk n cc own ret d κ) {i : Fin 4} {x : Int32} {a : Int32 → Option β} (dg : decode cc pc = .ok (.istore_n i, 1)) (hn : (i : Nat) < n) (hr : nV x a = some r) (k : ∀ v, a v = some r → J L n κ X (pc + 1) (jst (i : Nat) (.int v) lv) st) : J L n κ X pc lv (.int x :: st) := by
  obtain ⟨p, l, e, R, s, m, args, below, meth, c, D, A, ad, cA, rs, Q⟩ := κ
  obtain ⟨hx, hb, hml, hown, hts, hr0, hlk, hK, hA, hfr, hlo, hN⟩ := K
  intro H locs ls hP hD hS hl
  exact lv_istore_n hx hb dg rfl hl hn rfl (fun ls hl => k x hr H locs ls hP hD hS hl)
theorem j_istoreV (K : jOk n cc own ret d κ) {i : Nat} {x : Int32} {a : Int32 → Option β} (dg : decode cc pc = .ok (.istore i, 2)) (hn : i < n) (hr : nV x a = some r) (k : ∀ v, a v = some r → J L n κ X (pc + 2) (jst i (.int v) lv) st) : J L n κ X pc lv (.int x :: st) := by
  obtain ⟨p, l, e, R, s, m, args, below, meth, c, D, A, ad, cA, rs, Q⟩ := κ
  obtain ⟨hx, hb, hml, hown, hts, hr0, hlk, hK, hA, hfr, hlo, hN⟩ := K
  intro H locs ls hP hD hS hl
  exact lv_istore hx hb dg hl hn rfl (fun ls hl => k x hr H locs ls hP hD hS hl)
theorem j_iincV (K : jOk n cc own ret d κ) {i : Nat} {z : Int} {x v : Int32} {a : Int32 → Option β} (dg : decode cc pc = .ok (.iinc i z, 3)) (q : Nat) (h : lv[q]? = some (i, .int x)) (hz : Int32.ofInt z = v) (hn : i < n) (hr : nV (x + v) a = some r) (k : ∀ v, a v = some r → J L n κ X (pc + 3) (jst i (.int v) lv) st) : J L n κ X pc lv st := by
  obtain ⟨p, l, e, R, s, m, args, below, meth, c, D, A, ad, cA, rs, Q⟩ := κ
  obtain ⟨hx, hb, hml, hown, hts, hr0, hlk, hK, hA, hfr, hlo, hN⟩ := K
  intro H locs ls hP hD hS hl
  subst hz; exact lv_iinc hx hb dg hl h rfl hn rfl (fun ls hl => k _ hr H locs ls hP hD hS hl)
theorem j_iastoreV (K : jOk n cc own ret d κ) {k z : Nat} {i v : Int32} {a : JX → Option β} (hs : L.2.1 k = (0, z)) (hk : k < L.1) (dg : decode cc pc = .ok (.iastore, 1)) (hr : (if okI i z = true then nX (pX X k (upd (X k) i.toNatClampNeg v)) a else none) = some r) (kk : ∀ X, a X = some r → J L n κ X (pc + 1) lv st) : J L n κ X pc lv (.int v :: .int i :: .ref (jad κ k) :: st) := j_iastore K hs hk dg hr (fun h => kk _ h)
theorem j_bastoreV (K : jOk n cc own ret d κ) {k z : Nat} {i v : Int32} {a : JX → Option β} (hs : L.2.1 k = (1, z)) (hk : k < L.1) (dg : decode cc pc = .ok (.bastore, 1)) (hr : (if okI i z = true then nX (pX X k (upd (X k) i.toNatClampNeg (vp_nar .boolean v))) a else none) = some r) (kk : ∀ X, a X = some r → J L n κ X (pc + 1) lv st) : J L n κ X pc lv (.int v :: .int i :: .ref (jad κ k) :: st) := j_bastore K hs hk dg hr (fun h => kk _ h)
theorem j_castoreV (K : jOk n cc own ret d κ) {k z : Nat} {i v : Int32} {a : JX → Option β} (hs : L.2.1 k = (2, z)) (hk : k < L.1) (dg : decode cc pc = .ok (.castore, 1)) (hr : (if okI i z = true then nX (pX X k (upd (X k) i.toNatClampNeg (vp_nar .char v))) a else none) = some r) (kk : ∀ X, a X = some r → J L n κ X (pc + 1) lv st) : J L n κ X pc lv (.int v :: .int i :: .ref (jad κ k) :: st) := j_castore K hs hk dg hr (fun h => kk _ h)
theorem j_aastore3V (K : jOk n cc own ret d κ) {k z u ci y : Nat} {i : Int32} {a : JX → Option β} (hs : L.2.1 k = (3, z)) (hk : k < L.1) (hu : L.2.1 u = (10 + ci, y)) (hku : u < L.1) (hc : ci < 90) (hcl : ∃ q : vw_C, vwCl[ci]? = some q ∧ q.1 = "SearchKeeper$Root") (h31 : u < 2 ^ 31) (dg : decode cc pc = .ok (.aastore, 1)) (hr : (if okI i z = true then nX (pX X k (upd (X k) i.toNatClampNeg (nI u))) a else none) = some r) (kk : ∀ X, a X = some r → J L n κ X (pc + 1) lv st) : J L n κ X pc lv (.ref (jad κ u) :: .int i :: .ref (jad κ k) :: st) := j_aastore3 K hs hk hu hku hc hcl h31 dg hr (fun h => kk _ h)
theorem j_aaload3V (K : jOk n cc own ret d κ) {k z : Nat} {i : Int32} {g : Nat → Bool} {a : Nat → Option β} (hs : L.2.1 k = (3, z)) (hk : k < L.1) (dg : decode cc pc = .ok (.aaload, 1)) (hr : (if okI i z = true then nN (X k i.toNatClampNeg).toNatClampNeg (fun q => if g q = true then a q else none) else none) = some r) (kk : ∀ q, g q = true → a q = some r → J L n κ X (pc + 1) lv (.ref (jad κ q) :: st)) : J L n κ X pc lv (.int i :: .ref (jad κ k) :: st) := j_aaload3 K hs hk dg hr (fun h => kk _ (g_if h).1 (g_if h).2)
theorem j_aaload4V (K : jOk n cc own ret d κ) {k z b : Nat} {i : Int32} {g : Nat → Bool} {a : Nat → Option β} (hs : L.2.1 k = (100 + b, z)) (hk : k < L.1) (dg : decode cc pc = .ok (.aaload, 1)) (hr : (if okI i z = true then nN (b + i.toNatClampNeg) (fun q => if g q = true then a q else none) else none) = some r) (kk : ∀ q, g q = true → a q = some r → J L n κ X (pc + 1) lv (.ref (jad κ q) :: st)) : J L n κ X pc lv (.int i :: .ref (jad κ k) :: st) := j_aaload4 K hs hk dg hr (fun h => kk _ (g_if h).1 (g_if h).2)
theorem j_putiV (K : jOk n cc own ret d κ) {idx ci j k z : Nat} {v : Int32} {a : JX → Option β} (fl : FPk own idx ci j .int) (hs : L.2.1 k = (10 + ci, z)) (hk : k < L.1) (hc : ci < 90) (hl9 : ∀ f, j < (L.2.2 (jad κ) f k ci).length) (hv : ∀ f, (L.2.2 (jad κ) f k ci).set j (.int v) = L.2.2 (jad κ) (upd f j v) k ci) (dg : decode cc pc = .ok (.putfield idx, 3)) (hr : nX (pX X k (upd (X k) j v)) a = some r) (kk : ∀ X, a X = some r → J L n κ X (pc + 3) lv st) : J L n κ X pc lv (.int v :: .ref (jad κ k) :: st) := j_puti K fl hs hk hc hl9 hv dg (kk _ hr)
theorem j_putzV (K : jOk n cc own ret d κ) {idx ci j k z : Nat} {v : Int32} {a : JX → Option β} (fl : FPk own idx ci j .boolean) (hs : L.2.1 k = (10 + ci, z)) (hk : k < L.1) (hc : ci < 90) (hl9 : ∀ f, j < (L.2.2 (jad κ) f k ci).length) (hv : ∀ f, (L.2.2 (jad κ) f k ci).set j (.int v) = L.2.2 (jad κ) (upd f j v) k ci) (dg : decode cc pc = .ok (.putfield idx, 3)) (hr : (if okB v = true then nX (pX X k (upd (X k) j v)) a else none) = some r) (kk : ∀ X, a X = some r → J L n κ X (pc + 3) lv st) : J L n κ X pc lv (.int v :: .ref (jad κ k) :: st) := j_putz K fl hs hk hc hl9 hv (g_if hr).1 dg (kk _ (g_if hr).2)
theorem j_putiNV (K : jOk n cc own ret d κ) {idx ci j k z : Nat} {v : Int32} {a : JX → Option β} (fl : FPn own idx ci j .int) (hs : L.2.1 k = (10 + ci, z)) (hk : k < L.1) (hc : ci < 90) (hl9 : ∀ f, j < (L.2.2 (jad κ) f k ci).length) (hv : ∀ f, (L.2.2 (jad κ) f k ci).set j (.int v) = L.2.2 (jad κ) (upd f j v) k ci) (dg : decode cc pc = .ok (.putfield idx, 3)) (hr : nX (pX X k (upd (X k) j v)) a = some r) (kk : ∀ X, a X = some r → J L n κ X (pc + 3) lv st) : J L n κ X pc lv (.int v :: .ref (jad κ k) :: st) := j_putiN K fl hs hk hc hl9 hv dg (kk _ hr)
theorem j_putzNV (K : jOk n cc own ret d κ) {idx ci j k z : Nat} {v : Int32} {a : JX → Option β} (fl : FPn own idx ci j .boolean) (hs : L.2.1 k = (10 + ci, z)) (hk : k < L.1) (hc : ci < 90) (hl9 : ∀ f, j < (L.2.2 (jad κ) f k ci).length) (hv : ∀ f, (L.2.2 (jad κ) f k ci).set j (.int v) = L.2.2 (jad κ) (upd f j v) k ci) (dg : decode cc pc = .ok (.putfield idx, 3)) (hr : (if okB v = true then nX (pX X k (upd (X k) j v)) a else none) = some r) (kk : ∀ X, a X = some r → J L n κ X (pc + 3) lv st) : J L n κ X pc lv (.int v :: .ref (jad κ k) :: st) := j_putzN K fl hs hk hc hl9 hv (g_if hr).1 dg (kk _ (g_if hr).2)
end JR
def loop1 {A1 B : Type} (f : (A1 → Option B) → A1 → Option B) : Nat → A1 → Option B
  | 0 => fun _ => none
  | n + 1 => f (loop1 f n)
theorem j_loop1 {A1 B : Type} {r : B} {f : (A1 → Option B) → A1 → Option B} {P : A1 → Prop} (h : ∀ rec : A1 → Option B, (∀ (a1 : A1), rec a1 = some r → P a1) → ∀ (a1 : A1), f rec a1 = some r → P a1) : ∀ (n : Nat) (a1 : A1), loop1 f n a1 = some r → P a1
  | 0, _, hr => nomatch hr
  | n + 1, a1, hr => h (loop1 f n) (j_loop1 h n) a1 hr
def loop2 {A1 A2 B : Type} (f : (A1 → A2 → Option B) → A1 → A2 → Option B) : Nat → A1 → A2 → Option B
  | 0 => fun _ _ => none
  | n + 1 => f (loop2 f n)
theorem j_loop2 {A1 A2 B : Type} {r : B} {f : (A1 → A2 → Option B) → A1 → A2 → Option B} {P : A1 → A2 → Prop} (h : ∀ rec : A1 → A2 → Option B, (∀ (a1 : A1) (a2 : A2), rec a1 a2 = some r → P a1 a2) → ∀ (a1 : A1) (a2 : A2), f rec a1 a2 = some r → P a1 a2) : ∀ (n : Nat) (a1 : A1) (a2 : A2), loop2 f n a1 a2 = some r → P a1 a2
  | 0, _, _, hr => nomatch hr
  | n + 1, a1, a2, hr => h (loop2 f n) (j_loop2 h n) a1 a2 hr
def loop3 {A1 A2 A3 B : Type} (f : (A1 → A2 → A3 → Option B) → A1 → A2 → A3 → Option B) : Nat → A1 → A2 → A3 → Option B
  | 0 => fun _ _ _ => none
  | n + 1 => f (loop3 f n)
theorem j_loop3 {A1 A2 A3 B : Type} {r : B} {f : (A1 → A2 → A3 → Option B) → A1 → A2 → A3 → Option B} {P : A1 → A2 → A3 → Prop} (h : ∀ rec : A1 → A2 → A3 → Option B, (∀ (a1 : A1) (a2 : A2) (a3 : A3), rec a1 a2 a3 = some r → P a1 a2 a3) → ∀ (a1 : A1) (a2 : A2) (a3 : A3), f rec a1 a2 a3 = some r → P a1 a2 a3) : ∀ (n : Nat) (a1 : A1) (a2 : A2) (a3 : A3), loop3 f n a1 a2 a3 = some r → P a1 a2 a3
  | 0, _, _, _, hr => nomatch hr
  | n + 1, a1, a2, a3, hr => h (loop3 f n) (j_loop3 h n) a1 a2 a3 hr
def loop4 {A1 A2 A3 A4 B : Type} (f : (A1 → A2 → A3 → A4 → Option B) → A1 → A2 → A3 → A4 → Option B) : Nat → A1 → A2 → A3 → A4 → Option B
  | 0 => fun _ _ _ _ => none
  | n + 1 => f (loop4 f n)
theorem j_loop4 {A1 A2 A3 A4 B : Type} {r : B} {f : (A1 → A2 → A3 → A4 → Option B) → A1 → A2 → A3 → A4 → Option B} {P : A1 → A2 → A3 → A4 → Prop} (h : ∀ rec : A1 → A2 → A3 → A4 → Option B, (∀ (a1 : A1) (a2 : A2) (a3 : A3) (a4 : A4), rec a1 a2 a3 a4 = some r → P a1 a2 a3 a4) → ∀ (a1 : A1) (a2 : A2) (a3 : A3) (a4 : A4), f rec a1 a2 a3 a4 = some r → P a1 a2 a3 a4) : ∀ (n : Nat) (a1 : A1) (a2 : A2) (a3 : A3) (a4 : A4), loop4 f n a1 a2 a3 a4 = some r → P a1 a2 a3 a4
  | 0, _, _, _, _, hr => nomatch hr
  | n + 1, a1, a2, a3, a4, hr => h (loop4 f n) (j_loop4 h n) a1 a2 a3 a4 hr
def loop5 {A1 A2 A3 A4 A5 B : Type} (f : (A1 → A2 → A3 → A4 → A5 → Option B) → A1 → A2 → A3 → A4 → A5 → Option B) : Nat → A1 → A2 → A3 → A4 → A5 → Option B
  | 0 => fun _ _ _ _ _ => none
  | n + 1 => f (loop5 f n)
theorem j_loop5 {A1 A2 A3 A4 A5 B : Type} {r : B} {f : (A1 → A2 → A3 → A4 → A5 → Option B) → A1 → A2 → A3 → A4 → A5 → Option B} {P : A1 → A2 → A3 → A4 → A5 → Prop} (h : ∀ rec : A1 → A2 → A3 → A4 → A5 → Option B, (∀ (a1 : A1) (a2 : A2) (a3 : A3) (a4 : A4) (a5 : A5), rec a1 a2 a3 a4 a5 = some r → P a1 a2 a3 a4 a5) → ∀ (a1 : A1) (a2 : A2) (a3 : A3) (a4 : A4) (a5 : A5), f rec a1 a2 a3 a4 a5 = some r → P a1 a2 a3 a4 a5) : ∀ (n : Nat) (a1 : A1) (a2 : A2) (a3 : A3) (a4 : A4) (a5 : A5), loop5 f n a1 a2 a3 a4 a5 = some r → P a1 a2 a3 a4 a5
  | 0, _, _, _, _, _, hr => nomatch hr
  | n + 1, a1, a2, a3, a4, a5, hr => h (loop5 f n) (j_loop5 h n) a1 a2 a3 a4 a5 hr
def loop6 {A1 A2 A3 A4 A5 A6 B : Type} (f : (A1 → A2 → A3 → A4 → A5 → A6 → Option B) → A1 → A2 → A3 → A4 → A5 → A6 → Option B) : Nat → A1 → A2 → A3 → A4 → A5 → A6 → Option B
  | 0 => fun _ _ _ _ _ _ => none
  | n + 1 => f (loop6 f n)
theorem j_loop6 {A1 A2 A3 A4 A5 A6 B : Type} {r : B} {f : (A1 → A2 → A3 → A4 → A5 → A6 → Option B) → A1 → A2 → A3 → A4 → A5 → A6 → Option B} {P : A1 → A2 → A3 → A4 → A5 → A6 → Prop} (h : ∀ rec : A1 → A2 → A3 → A4 → A5 → A6 → Option B, (∀ (a1 : A1) (a2 : A2) (a3 : A3) (a4 : A4) (a5 : A5) (a6 : A6), rec a1 a2 a3 a4 a5 a6 = some r → P a1 a2 a3 a4 a5 a6) → ∀ (a1 : A1) (a2 : A2) (a3 : A3) (a4 : A4) (a5 : A5) (a6 : A6), f rec a1 a2 a3 a4 a5 a6 = some r → P a1 a2 a3 a4 a5 a6) : ∀ (n : Nat) (a1 : A1) (a2 : A2) (a3 : A3) (a4 : A4) (a5 : A5) (a6 : A6), loop6 f n a1 a2 a3 a4 a5 a6 = some r → P a1 a2 a3 a4 a5 a6
  | 0, _, _, _, _, _, _, hr => nomatch hr
  | n + 1, a1, a2, a3, a4, a5, a6, hr => h (loop6 f n) (j_loop6 h n) a1 a2 a3 a4 a5 a6 hr
def loop7 {A1 A2 A3 A4 A5 A6 A7 B : Type} (f : (A1 → A2 → A3 → A4 → A5 → A6 → A7 → Option B) → A1 → A2 → A3 → A4 → A5 → A6 → A7 → Option B) : Nat → A1 → A2 → A3 → A4 → A5 → A6 → A7 → Option B
  | 0 => fun _ _ _ _ _ _ _ => none
  | n + 1 => f (loop7 f n)
theorem j_loop7 {A1 A2 A3 A4 A5 A6 A7 B : Type} {r : B} {f : (A1 → A2 → A3 → A4 → A5 → A6 → A7 → Option B) → A1 → A2 → A3 → A4 → A5 → A6 → A7 → Option B} {P : A1 → A2 → A3 → A4 → A5 → A6 → A7 → Prop} (h : ∀ rec : A1 → A2 → A3 → A4 → A5 → A6 → A7 → Option B, (∀ (a1 : A1) (a2 : A2) (a3 : A3) (a4 : A4) (a5 : A5) (a6 : A6) (a7 : A7), rec a1 a2 a3 a4 a5 a6 a7 = some r → P a1 a2 a3 a4 a5 a6 a7) → ∀ (a1 : A1) (a2 : A2) (a3 : A3) (a4 : A4) (a5 : A5) (a6 : A6) (a7 : A7), f rec a1 a2 a3 a4 a5 a6 a7 = some r → P a1 a2 a3 a4 a5 a6 a7) : ∀ (n : Nat) (a1 : A1) (a2 : A2) (a3 : A3) (a4 : A4) (a5 : A5) (a6 : A6) (a7 : A7), loop7 f n a1 a2 a3 a4 a5 a6 a7 = some r → P a1 a2 a3 a4 a5 a6 a7
  | 0, _, _, _, _, _, _, _, hr => nomatch hr
  | n + 1, a1, a2, a3, a4, a5, a6, a7, hr => h (loop7 f n) (j_loop7 h n) a1 a2 a3 a4 a5 a6 a7 hr
def loop8 {A1 A2 A3 A4 A5 A6 A7 A8 B : Type} (f : (A1 → A2 → A3 → A4 → A5 → A6 → A7 → A8 → Option B) → A1 → A2 → A3 → A4 → A5 → A6 → A7 → A8 → Option B) : Nat → A1 → A2 → A3 → A4 → A5 → A6 → A7 → A8 → Option B
  | 0 => fun _ _ _ _ _ _ _ _ => none
  | n + 1 => f (loop8 f n)
theorem j_loop8 {A1 A2 A3 A4 A5 A6 A7 A8 B : Type} {r : B} {f : (A1 → A2 → A3 → A4 → A5 → A6 → A7 → A8 → Option B) → A1 → A2 → A3 → A4 → A5 → A6 → A7 → A8 → Option B} {P : A1 → A2 → A3 → A4 → A5 → A6 → A7 → A8 → Prop} (h : ∀ rec : A1 → A2 → A3 → A4 → A5 → A6 → A7 → A8 → Option B, (∀ (a1 : A1) (a2 : A2) (a3 : A3) (a4 : A4) (a5 : A5) (a6 : A6) (a7 : A7) (a8 : A8), rec a1 a2 a3 a4 a5 a6 a7 a8 = some r → P a1 a2 a3 a4 a5 a6 a7 a8) → ∀ (a1 : A1) (a2 : A2) (a3 : A3) (a4 : A4) (a5 : A5) (a6 : A6) (a7 : A7) (a8 : A8), f rec a1 a2 a3 a4 a5 a6 a7 a8 = some r → P a1 a2 a3 a4 a5 a6 a7 a8) : ∀ (n : Nat) (a1 : A1) (a2 : A2) (a3 : A3) (a4 : A4) (a5 : A5) (a6 : A6) (a7 : A7) (a8 : A8), loop8 f n a1 a2 a3 a4 a5 a6 a7 a8 = some r → P a1 a2 a3 a4 a5 a6 a7 a8
  | 0, _, _, _, _, _, _, _, _, hr => nomatch hr
  | n + 1, a1, a2, a3, a4, a5, a6, a7, a8, hr => h (loop8 f n) (j_loop8 h n) a1 a2 a3 a4 a5 a6 a7 a8 hr
/-! ===== contracts ===== -/
def jPc (L : Lay) (D : va_G) (ad : Nat → Nat) (cA : Nat → ClassId) (rs : va_W) (X : JX) (sz : Nat) (av : List Value) : Array Value → State → Prop := va_Pc av (fun U => U.heap.size = sz ∧ va_P D vwCl (wZ L ad cA X ++ rs) U.heap ∧ va_K D vwCl (jTy cA) U ∧ va_D (fun _ => True) (wZ L ad cA X ++ rs) ∧ jN U)
/-- the contract of a method that throws nothing and makes nothing: called with av in the world X it ends as x says -/
def Cal (L : Lay) (y : MethodName) (cy : ByteArray) (ny : Nat) (ry : Option FieldType) (dy : Nat) (av : (Nat → Nat) → List Value) (X : JX) (x : (Nat → Nat) → JE) : Prop :=
  ∀ (l : Launch) (D : va_G) (ad : Nat → Nat) (cA : Nat → ClassId) (rs : va_W) (sz : Nat), Met l y (.code y cy ny ry :: gTbl) (jRm dy 0 0) (jPc L D ad cA rs X sz (av ad)) (jQc L D ad cA rs (va_A (wZ L ad cA X ++ rs) sz) (x ad)) 0 0 (va_A (wZ L ad cA X ++ rs) sz)
theorem Cal.of {L : Lay} {y : MethodName} {cy : ByteArray} {ny : Nat} {ry : Option FieldType} {dy : Nat} {av : (Nat → Nat) → List Value} {X : JX} {x : (Nat → Nat) → JE} {own : String} (lv : (Nat → Nat) → List (Nat × Value)) (hy : plainName y.cls = true) (ho : y.cls = own) (hlen : ∀ ad, (lg_sl (av ad)).length ≤ ny) (hlv : ∀ ad, lv_args 0 (av ad) = lv ad)
    (k : ∀ κ : JK, jOk ny cy own ry dy κ → jFin L false (x (jad κ)) κ → J L ny κ X 0 (lv (jad κ)) []) : Cal L y cy ny ry dy av X x := by
  intro l D ad cA rs sz
  refine Met.ofW (cc := cy) (maxL := ny) (ret := ry) hy rfl ?_
  intro p e s m args below meth c s₁ B hml hv
  obtain ⟨rfl, hsz, hP, hK, hD0, hN⟩ := hv
  have hx := B.exec
  have hb := B.bytes
  have hr := B.returns
  have hts := atoms_spec (ws := Cond.code y cy ny ry :: gTbl) B.pre
  have hown : s.vm.findClass own = some m.cls := by rw [← ho]; exact findClass_of_methodNamed B.named
  have hlocks := B.notSynchronized
  subst hsz
  have hA : ∀ q : Nat, s.heap.size ≤ q → (va_A (wZ L ad cA X ++ rs) s.heap.size) q := fun q h => Or.inr h
  have hl := lv_entry (av ad) (n := ny) (hlen ad)
  rw [lg_entry_eq]
  have h := k (p, l, e, (headSpec (Cond.code y cy ny ry :: gTbl) (jRm dy 0 0)).room, s, m, (av ad).toArray, below, meth, c, D, va_A (wZ L ad cA X ++ rs) s.heap.size, ad, cA, rs, MQ below (jQc L D ad cA rs (va_A (wZ L ad cA X ++ rs) s.heap.size) (x ad)) (av ad).toArray s 0 0 (va_A (wZ L ad cA X ++ rs) s.heap.size))
    ⟨hx, hb, hml, hown, fun w hw => hts w (List.mem_cons_of_mem _ hw), hr, hlocks, hK, hA, Nat.le_refl _, Nat.le_refl _, hN⟩ rfl
  rw [hlv ad] at hl
  exact h s.heap [] _ hP hD0.self va_S.rf hl
/-- the words of a call: method y of na parameters, at own's entry idx -/
def MLk (own : String) (idx : Nat) (y : MethodName) (cy : ByteArray) (ny : Nat) (ry : Option FieldType) (na : Nat) : Prop := GoodIn gTbl (wsV own idx y.cls y (.code y cy ny ry :: gTbl)) ∧ (y.cls ≠ "java/lang/invoke/MethodHandle" ∧ y.cls ≠ "java/lang/invoke/VarHandle" ∧ (parseMethodDescriptor y.desc).map (fun d => d.parameters.length) = some na)
def MSk (own : String) (idx : Nat) (y : MethodName) (cy : ByteArray) (ny : Nat) (ry : Option FieldType) (na : Nat) : Prop := GoodIn gTbl (va_wsS own idx y (.code y cy ny ry :: gTbl)) ∧ (y.cls ≠ "java/lang/invoke/MethodHandle" ∧ y.cls ≠ "java/lang/invoke/VarHandle" ∧ (parseMethodDescriptor y.desc).map (fun d => d.parameters.length) = some na)
theorem goodIn_c {b a : List Cond} {w : Cond} (h : w ∈ b) (hg : goodWord w = true) (t : GoodIn b a) : GoodIn b (w :: a) := fun v hv => (List.mem_cons.mp hv).elim (fun e => by rw [e]; exact ⟨h, good_of_word hg⟩) (t v)
theorem MLk.of {own : String} {idx : Nat} {y : MethodName} {cy : ByteArray} {ny : Nat} {ry : Option FieldType} {na : Nat} (i1 i2 i3 i4 i5 : Nat) (h1 : lw_tbl[i1]? = some (.methodLink own idx y)) (h2 : lw_tbl[i2]? = some (.instanceMethod y)) (h3 : lw_tbl[i3]? = some (.selects y.cls y y)) (h4 : lw_tbl[i4]? = some (.initialized y.cls)) (h5 : lw_tbl[i5]? = some (.code y cy ny ry)) (hd : y.cls ≠ "java/lang/invoke/MethodHandle" ∧ y.cls ≠ "java/lang/invoke/VarHandle" ∧ (parseMethodDescriptor y.desc).map (fun d => d.parameters.length) = some na) : MLk own idx y cy ny ry na :=
  ⟨goodIn_c (gTbl_at h1 rfl) rfl (goodIn_c (gTbl_at h2 rfl) rfl (goodIn_c (gTbl_at h3 rfl) rfl (goodIn_c (gTbl_at h4 rfl) rfl (goodIn_c (gTbl_at h5 rfl) rfl gTbl_good)))), hd⟩
theorem MSk.of {own : String} {idx : Nat} {y : MethodName} {cy : ByteArray} {ny : Nat} {ry : Option FieldType} {na : Nat} (i1 i2 i3 i4 : Nat) (h1 : lw_tbl[i1]? = some (.methodLink own idx y)) (h2 : lw_tbl[i2]? = some (.static y)) (h3 : lw_tbl[i3]? = some (.initialized y.cls)) (h4 : lw_tbl[i4]? = some (.code y cy ny ry)) (hd : y.cls ≠ "java/lang/invoke/MethodHandle" ∧ y.cls ≠ "java/lang/invoke/VarHandle" ∧ (parseMethodDescriptor y.desc).map (fun d => d.parameters.length) = some na) : MSk own idx y cy ny ry na :=
  ⟨goodIn_c (gTbl_at h1 rfl) rfl (goodIn_c (gTbl_at h2 rfl) rfl (goodIn_c (gTbl_at h3 rfl) rfl (goodIn_c (gTbl_at h4 rfl) rfl gTbl_good))), hd⟩
section JC
variable {p : Program} {l : Launch} {e : Env} {R : Room} {s : State} {m : MethodId} {args : Array Value} {below : List Frame} {meth : Method} {c : Code} {H : Heap} {locs : List Loc} {cells slots : Nat} {Q : State → Prop}
variable {pc : Nat} {ls : Array Slot} {rest st0 : List Value} {a : Array Value} {A0 A1 : Nat → Prop} {H0 : Heap} {mc ms : Nat} {free : Addr → Prop}
theorem w_call {Qa : State → Outcome → State → Prop} {rv : Option Value} {P : Heap → Prop} (hr : va_Run p l e R s m args below meth c H locs cells slots mc ms (F0 m pc ls st0) rest Qa free) (hq : ∀ (st : State) (v : Option Value) (t : State), Qa st (.returned v) t → v = rv ∧ P t.heap ∧ va_F A1 st t) (hS : va_S A0 H0 H locs) (hA : ∀ q, q < H.size → A1 q → A0 q) (hf : ∀ q, free q → A0 q)
    (kk : ∀ (H1 : Heap) (locs1 : List Loc), P H1 → va_S A0 H0 H1 locs1 → W p l e R s m args below meth c H1 locs1 (cells + mc) (slots + ms) Q (F0 m (pc + 3) ls (rv.toList ++ rest))) : W p l e R s m args below meth c H locs cells slots Q (F0 m pc ls st0) := by
  intro T hT X
  obtain ⟨v, st₀, t, T', L, h0, X', hL, e1, e2, hqa, st⟩ := hr T hT X
  obtain ⟨rfl, hp, hz, hk⟩ := hq _ _ _ hqa
  rw [h0] at hz hk
  obtain ⟨t2, a1, b1⟩ := kk T'.heap (locs ++ L) (by rw [e1]; exact hp)
    ⟨Nat.le_trans hS.1 (by rw [e1]; exact hz), fun q h1 h2 => by rw [e1, hk q (Nat.lt_of_lt_of_le h1 hS.1) (fun z => h2 (hA q (Nat.lt_of_lt_of_le h1 hS.1) z))]; exact hS.2.1 q h1 h2, fun q hq => by
      rcases List.mem_append.mp hq with h | h
      · exact hS.2.2 q h
      · exact hf _ (hL q h)⟩ T' rfl X'
  exact ⟨t2, st t2 a1, b1⟩
end JC
theorem jA_lt {A : Nat → Prop} {ws : va_W} {H : Heap} (hD : va_D A ws) : ∀ q, q < H.size → va_A ws H.size q → A q := fun q h1 h2 => h2.elim (fun ⟨k, e, h⟩ => hD.2 k (q, e) h) (fun h => absurd h (Nat.not_le.mpr h1))
theorem jA_all {A : Nat → Prop} {ws : va_W} {H0 H : Heap} {locs : List Loc} (hD : va_D A ws) (hS : va_S A H0 H locs) (hA : ∀ q, H0.size ≤ q → A q) : ∀ q, va_A ws H.size q → A q := fun q h => h.elim (fun ⟨k, e, h⟩ => hD.2 k (q, e) h) (fun h => hA q (Nat.le_trans hS.1 h))
theorem jPc_blind {L : Lay} {D : va_G} {ad : Nat → Nat} {cA : Nat → ClassId} {rs : va_W} {X : JX} {sz : Nat} {av : List Value} : FrameBlind (jPc L D ad cA rs X sz av) := fun a U g mk q => by
  obtain ⟨q0, q1, qP, qK, qD, qN⟩ := q
  exact ⟨q0, q1, qP, va_K.moved (u := U) (U := U.calling g mk a) (Vm.Alike.refl U.vm) qK, qD, jN.same (u := U) (U := U.calling g mk a) rfl qN⟩
section JV
variable {L : Lay} {n : Nat} {cc : ByteArray} {own : String} {ret : Option FieldType} {d : Nat} {κ : JK} {X : JX} {pc : Nat} {lv : List (Nat × Value)} {st : List Value} {β : Type} {r : β}
variable {y : MethodName} {cy : ByteArray} {ny : Nat} {ry : Option FieldType} {dy idx na : Nat}

theorem j_callV (K : jOk n cc own ret d κ) {av : (Nat → Nat) → List Value} {x : (Nat → Nat) → JE} {k ci z : Nat} {As : List Value} {rv : Option Value} {X' : JX} (hc : Cal L y cy ny ry dy av X x) (ml : MLk own idx y cy ny ry na) (hcl : ∃ q : vw_C, vwCl[ci]? = some q ∧ q.1 = y.cls) (hs : L.2.1 k = (10 + ci, z)) (hk : k < L.1) (hci : ci < 90) (hav : av (jad κ) = .ref (jad κ k) :: As) (hn : As.length = na) (hd : dy + 1 ≤ d) (hny : ny ≤ 20) (hst : (st.map fun v => v.category).sum ≤ 8) (hxx : x (jad κ) = (none, rv, X')) (dg : decode cc pc = .ok (.invokevirtual idx, 3)) (kk : J L n κ X' (pc + 3) lv (rv.toList ++ st)) : J L n κ X pc lv (As.reverse ++ .ref (jad κ k) :: st) := by
  obtain ⟨p, l, e, R, s, m, args, below, meth, c, D, A, ad, cA, rs, Q⟩ := κ
  obtain ⟨hx, hb, hml, hown, hts, hr0, hlk, hK, hA, hfr, hlo, hN⟩ := K
  intro H locs ls hP hD hS hl
  obtain ⟨⟨C, T, N⟩, g1, g2⟩ := hcl
  have hM := hc l D ad cA rs H.size
  have hav' : av ad = .ref (ad k) :: As := hav
  have hxx' : x ad = (none, rv, X') := hxx
  rw [hav', hxx'] at hM
  have cw := cwV (R := R) (s := s) (args := args) (own := own) (C := y.cls) (index := idx) (y := y) (bytes := cy) (maxL := ny) (ret := ry) (Ts := gTbl) (ws := .code y cy ny ry :: gTbl) (ws' := gTbl) (rm := jRm dy 0 0) (mc := 0) (ms := 0) na hts ml.1 rfl rfl rfl ⟨rfl, ml.2⟩ ⟨by show dy + 1 ≤ _; omega, by show 8 + (ny + 11) + 39 * dy ≤ _; omega⟩
  refine w_call (rv := rv) (P := fun H => va_P D vwCl (wZ L ad cA X' ++ rs) H) (va_runV (As := As) (rest := st) ⟨hx, hb, hml, hown, hts⟩ hM cw ⟨jPc_blind, ?_, fun U hU hW => ⟨rfl, by rw [hU], by rw [hU]; exact hP, va_K.moved hW.alike hK, hD.weaken (fun _ _ _ _ => trivial), hN.warm hW⟩⟩ rfl hn (hl.1) rfl (lv_room hst) dg ⟨Nat.zero_le _, Nat.zero_le _⟩) (fun st v t h => ⟨?_, h.1.2.2, h.2⟩) hS (jA_lt hD) (jA_all hD hS hA) (fun H locs hP hS => kk H locs ls hP (wZ_D hD) hS hl)
  · rw [← show (C, T, N).1 = y.cls from g2]
    exact va_recv hK hP (ci := ci) (q0 := k) g1 (by rw [wZ_get hk, cZ_ob hs hci])
  · exact Outcome.returned.inj h.1.2.1
theorem j_callS (K : jOk n cc own ret d κ) {av : (Nat → Nat) → List Value} {x : (Nat → Nat) → JE} {As : List Value} {rv : Option Value} {X' : JX} (hc : Cal L y cy ny ry dy av X x) (ml : MSk own idx y cy ny ry na) (hav : av (jad κ) = As) (hn : As.length = na) (hd : dy + 1 ≤ d) (hny : ny ≤ 20) (hst : (st.map fun v => v.category).sum ≤ 8) (hxx : x (jad κ) = (none, rv, X')) (dg : decode cc pc = .ok (.invokestatic idx, 3)) (kk : J L n κ X' (pc + 3) lv (rv.toList ++ st)) : J L n κ X pc lv (As.reverse ++ st) := by
  obtain ⟨p, l, e, R, s, m, args, below, meth, c, D, A, ad, cA, rs, Q⟩ := κ
  obtain ⟨hx, hb, hml, hown, hts, hr0, hlk, hK, hA, hfr, hlo, hN⟩ := K
  intro H locs ls hP hD hS hl
  have hM := hc l D ad cA rs H.size
  have hav' : av ad = As := hav
  have hxx' : x ad = (none, rv, X') := hxx
  rw [hav', hxx'] at hM
  have cw := va_cwS (R := R) (s := s) (args := args) (own := own) (index := idx) (y := y) (bytes := cy) (maxL := ny) (ret := ry) (Ts := gTbl) (ws := .code y cy ny ry :: gTbl) (ws' := gTbl) (rm := jRm dy 0 0) (mc := 0) (ms := 0) na hts ml.1 rfl rfl rfl ml.2 ⟨by show dy + 1 ≤ _; omega, by show 8 + (ny + 11) + 39 * dy ≤ _; omega⟩
  refine w_call (rv := rv) (P := fun H => va_P D vwCl (wZ L ad cA X' ++ rs) H) (va_runS (As := As) (rest := st) ⟨hx, hb, hml, hown, hts⟩ hM cw ⟨jPc_blind, fun U hU hW => ⟨rfl, by rw [hU], by rw [hU]; exact hP, va_K.moved hW.alike hK, hD.weaken (fun _ _ _ _ => trivial), hN.warm hW⟩⟩ rfl hn (hl.1) rfl (lv_room hst) dg ⟨Nat.zero_le _, Nat.zero_le _⟩) (fun st v t h => ⟨?_, h.1.2.2, h.2⟩) hS (jA_lt hD) (jA_all hD hS hA) (fun H locs hP hS => kk H locs ls hP (wZ_D hD) hS hl)
  exact Outcome.returned.inj h.1.2.1
theorem j_vI0 (K : jOk n cc own ret d κ) {ex : Option (Int32)} {g : Int32 → Option β} {av : (Nat → Nat) → List Value} {k ci z : Nat} (hr : ex.bind g = some r) (hc : ∀ v, ex = some v → Cal L y cy ny ry dy av X ((fun v _ => (none, some (.int v), X)) v)) (ml : MLk own idx y cy ny ry 0) (hcl : ∃ q : vw_C, vwCl[ci]? = some q ∧ q.1 = y.cls) (hs : L.2.1 k = (10 + ci, z)) (hk : k < L.1) (hci : ci < 90) (hav : av (jad κ) = [.ref (jad κ k)]) (hd : dy + 1 ≤ d) (hny : ny ≤ 20) (hst : (st.map fun v => v.category).sum ≤ 8) (dg : decode cc pc = .ok (.invokevirtual idx, 3)) (kk : ∀ v, ex = some v → g v = some r → J L n κ X (pc + 3) lv (.int v :: st)) : J L n κ X pc lv (.ref (jad κ k) :: st) := by
  obtain ⟨v, h1, h2⟩ := g_bd hr
  exact j_callV K (As := []) (rv := some (.int v)) (hc v h1) ml hcl hs hk hci hav rfl hd hny hst rfl dg (kk v h1 h2)
theorem j_vI1 (K : jOk n cc own ret d κ) {ex : Option (Int32)} {g : Int32 → Option β} {av : (Nat → Nat) → List Value} {k ci z : Nat} {a1 : Value} (hr : ex.bind g = some r) (hc : ∀ v, ex = some v → Cal L y cy ny ry dy av X ((fun v _ => (none, some (.int v), X)) v)) (ml : MLk own idx y cy ny ry 1) (hcl : ∃ q : vw_C, vwCl[ci]? = some q ∧ q.1 = y.cls) (hs : L.2.1 k = (10 + ci, z)) (hk : k < L.1) (hci : ci < 90) (hav : av (jad κ) = [.ref (jad κ k), a1]) (hd : dy + 1 ≤ d) (hny : ny ≤ 20) (hst : (st.map fun v => v.category).sum ≤ 8) (dg : decode cc pc = .ok (.invokevirtual idx, 3)) (kk : ∀ v, ex = some v → g v = some r → J L n κ X (pc + 3) lv (.int v :: st)) : J L n κ X pc lv (a1 :: .ref (jad κ k) :: st) := by
  obtain ⟨v, h1, h2⟩ := g_bd hr
  exact j_callV K (As := [a1]) (rv := some (.int v)) (hc v h1) ml hcl hs hk hci hav rfl hd hny hst rfl dg (kk v h1 h2)
theorem j_sI1 (K : jOk n cc own ret d κ) {ex : Option (Int32)} {g : Int32 → Option β} {av : (Nat → Nat) → List Value} {a1 : Value} (hr : ex.bind g = some r) (hc : ∀ v, ex = some v → Cal L y cy ny ry dy av X ((fun v _ => (none, some (.int v), X)) v)) (ml : MSk own idx y cy ny ry 1) (hav : av (jad κ) = [a1]) (hd : dy + 1 ≤ d) (hny : ny ≤ 20) (hst : (st.map fun v => v.category).sum ≤ 8) (dg : decode cc pc = .ok (.invokestatic idx, 3)) (kk : ∀ v, ex = some v → g v = some r → J L n κ X (pc + 3) lv (.int v :: st)) : J L n κ X pc lv (a1 :: st) := by
  obtain ⟨v, h1, h2⟩ := g_bd hr
  exact j_callS K (As := [a1]) (rv := some (.int v)) (hc v h1) ml hav rfl hd hny hst rfl dg (kk v h1 h2)
theorem j_vI2 (K : jOk n cc own ret d κ) {ex : Option (Int32)} {g : Int32 → Option β} {av : (Nat → Nat) → List Value} {k ci z : Nat} {a1 a2 : Value} (hr : ex.bind g = some r) (hc : ∀ v, ex = some v → Cal L y cy ny ry dy av X ((fun v _ => (none, some (.int v), X)) v)) (ml : MLk own idx y cy ny ry 2) (hcl : ∃ q : vw_C, vwCl[ci]? = some q ∧ q.1 = y.cls) (hs : L.2.1 k = (10 + ci, z)) (hk : k < L.1) (hci : ci < 90) (hav : av (jad κ) = [.ref (jad κ k), a1, a2]) (hd : dy + 1 ≤ d) (hny : ny ≤ 20) (hst : (st.map fun v => v.category).sum ≤ 8) (dg : decode cc pc = .ok (.invokevirtual idx, 3)) (kk : ∀ v, ex = some v → g v = some r → J L n κ X (pc + 3) lv (.int v :: st)) : J L n κ X pc lv (a2 :: a1 :: .ref (jad κ k) :: st) := by
  obtain ⟨v, h1, h2⟩ := g_bd hr
  exact j_callV K (As := [a1, a2]) (rv := some (.int v)) (hc v h1) ml hcl hs hk hci hav rfl hd hny hst rfl dg (kk v h1 h2)
theorem j_sI2 (K : jOk n cc own ret d κ) {ex : Option (Int32)} {g : Int32 → Option β} {av : (Nat → Nat) → List Value} {a1 a2 : Value} (hr : ex.bind g = some r) (hc : ∀ v, ex = some v → Cal L y cy ny ry dy av X ((fun v _ => (none, some (.int v), X)) v)) (ml : MSk own idx y cy ny ry 2) (hav : av (jad κ) = [a1, a2]) (hd : dy + 1 ≤ d) (hny : ny ≤ 20) (hst : (st.map fun v => v.category).sum ≤ 8) (dg : decode cc pc = .ok (.invokestatic idx, 3)) (kk : ∀ v, ex = some v → g v = some r → J L n κ X (pc + 3) lv (.int v :: st)) : J L n κ X pc lv (a2 :: a1 :: st) := by
  obtain ⟨v, h1, h2⟩ := g_bd hr
  exact j_callS K (As := [a1, a2]) (rv := some (.int v)) (hc v h1) ml hav rfl hd hny hst rfl dg (kk v h1 h2)
theorem j_vI3 (K : jOk n cc own ret d κ) {ex : Option (Int32)} {g : Int32 → Option β} {av : (Nat → Nat) → List Value} {k ci z : Nat} {a1 a2 a3 : Value} (hr : ex.bind g = some r) (hc : ∀ v, ex = some v → Cal L y cy ny ry dy av X ((fun v _ => (none, some (.int v), X)) v)) (ml : MLk own idx y cy ny ry 3) (hcl : ∃ q : vw_C, vwCl[ci]? = some q ∧ q.1 = y.cls) (hs : L.2.1 k = (10 + ci, z)) (hk : k < L.1) (hci : ci < 90) (hav : av (jad κ) = [.ref (jad κ k), a1, a2, a3]) (hd : dy + 1 ≤ d) (hny : ny ≤ 20) (hst : (st.map fun v => v.category).sum ≤ 8) (dg : decode cc pc = .ok (.invokevirtual idx, 3)) (kk : ∀ v, ex = some v → g v = some r → J L n κ X (pc + 3) lv (.int v :: st)) : J L n κ X pc lv (a3 :: a2 :: a1 :: .ref (jad κ k) :: st) := by
  obtain ⟨v, h1, h2⟩ := g_bd hr
  exact j_callV K (As := [a1, a2, a3]) (rv := some (.int v)) (hc v h1) ml hcl hs hk hci hav rfl hd hny hst rfl dg (kk v h1 h2)
theorem j_sI3 (K : jOk n cc own ret d κ) {ex : Option (Int32)} {g : Int32 → Option β} {av : (Nat → Nat) → List Value} {a1 a2 a3 : Value} (hr : ex.bind g = some r) (hc : ∀ v, ex = some v → Cal L y cy ny ry dy av X ((fun v _ => (none, some (.int v), X)) v)) (ml : MSk own idx y cy ny ry 3) (hav : av (jad κ) = [a1, a2, a3]) (hd : dy + 1 ≤ d) (hny : ny ≤ 20) (hst : (st.map fun v => v.category).sum ≤ 8) (dg : decode cc pc = .ok (.invokestatic idx, 3)) (kk : ∀ v, ex = some v → g v = some r → J L n κ X (pc + 3) lv (.int v :: st)) : J L n κ X pc lv (a3 :: a2 :: a1 :: st) := by
  obtain ⟨v, h1, h2⟩ := g_bd hr
  exact j_callS K (As := [a1, a2, a3]) (rv := some (.int v)) (hc v h1) ml hav rfl hd hny hst rfl dg (kk v h1 h2)
theorem j_vI4 (K : jOk n cc own ret d κ) {ex : Option (Int32)} {g : Int32 → Option β} {av : (Nat → Nat) → List Value} {k ci z : Nat} {a1 a2 a3 a4 : Value} (hr : ex.bind g = some r) (hc : ∀ v, ex = some v → Cal L y cy ny ry dy av X ((fun v _ => (none, some (.int v), X)) v)) (ml : MLk own idx y cy ny ry 4) (hcl : ∃ q : vw_C, vwCl[ci]? = some q ∧ q.1 = y.cls) (hs : L.2.1 k = (10 + ci, z)) (hk : k < L.1) (hci : ci < 90) (hav : av (jad κ) = [.ref (jad κ k), a1, a2, a3, a4]) (hd : dy + 1 ≤ d) (hny : ny ≤ 20) (hst : (st.map fun v => v.category).sum ≤ 8) (dg : decode cc pc = .ok (.invokevirtual idx, 3)) (kk : ∀ v, ex = some v → g v = some r → J L n κ X (pc + 3) lv (.int v :: st)) : J L n κ X pc lv (a4 :: a3 :: a2 :: a1 :: .ref (jad κ k) :: st) := by
  obtain ⟨v, h1, h2⟩ := g_bd hr
  exact j_callV K (As := [a1, a2, a3, a4]) (rv := some (.int v)) (hc v h1) ml hcl hs hk hci hav rfl hd hny hst rfl dg (kk v h1 h2)
theorem j_sI4 (K : jOk n cc own ret d κ) {ex : Option (Int32)} {g : Int32 → Option β} {av : (Nat → Nat) → List Value} {a1 a2 a3 a4 : Value} (hr : ex.bind g = some r) (hc : ∀ v, ex = some v → Cal L y cy ny ry dy av X ((fun v _ => (none, some (.int v), X)) v)) (ml : MSk own idx y cy ny ry 4) (hav : av (jad κ) = [a1, a2, a3, a4]) (hd : dy + 1 ≤ d) (hny : ny ≤ 20) (hst : (st.map fun v => v.category).sum ≤ 8) (dg : decode cc pc = .ok (.invokestatic idx, 3)) (kk : ∀ v, ex = some v → g v = some r → J L n κ X (pc + 3) lv (.int v :: st)) : J L n κ X pc lv (a4 :: a3 :: a2 :: a1 :: st) := by
  obtain ⟨v, h1, h2⟩ := g_bd hr
  exact j_callS K (As := [a1, a2, a3, a4]) (rv := some (.int v)) (hc v h1) ml hav rfl hd hny hst rfl dg (kk v h1 h2)
theorem j_vI5 (K : jOk n cc own ret d κ) {ex : Option (Int32)} {g : Int32 → Option β} {av : (Nat → Nat) → List Value} {k ci z : Nat} {a1 a2 a3 a4 a5 : Value} (hr : ex.bind g = some r) (hc : ∀ v, ex = some v → Cal L y cy ny ry dy av X ((fun v _ => (none, some (.int v), X)) v)) (ml : MLk own idx y cy ny ry 5) (hcl : ∃ q : vw_C, vwCl[ci]? = some q ∧ q.1 = y.cls) (hs : L.2.1 k = (10 + ci, z)) (hk : k < L.1) (hci : ci < 90) (hav : av (jad κ) = [.ref (jad κ k), a1, a2, a3, a4, a5]) (hd : dy + 1 ≤ d) (hny : ny ≤ 20) (hst : (st.map fun v => v.category).sum ≤ 8) (dg : decode cc pc = .ok (.invokevirtual idx, 3)) (kk : ∀ v, ex = some v → g v = some r → J L n κ X (pc + 3) lv (.int v :: st)) : J L n κ X pc lv (a5 :: a4 :: a3 :: a2 :: a1 :: .ref (jad κ k) :: st) := by
  obtain ⟨v, h1, h2⟩ := g_bd hr
  exact j_callV K (As := [a1, a2, a3, a4, a5]) (rv := some (.int v)) (hc v h1) ml hcl hs hk hci hav rfl hd hny hst rfl dg (kk v h1 h2)
theorem j_sI5 (K : jOk n cc own ret d κ) {ex : Option (Int32)} {g : Int32 → Option β} {av : (Nat → Nat) → List Value} {a1 a2 a3 a4 a5 : Value} (hr : ex.bind g = some r) (hc : ∀ v, ex = some v → Cal L y cy ny ry dy av X ((fun v _ => (none, some (.int v), X)) v)) (ml : MSk own idx y cy ny ry 5) (hav : av (jad κ) = [a1, a2, a3, a4, a5]) (hd : dy + 1 ≤ d) (hny : ny ≤ 20) (hst : (st.map fun v => v.category).sum ≤ 8) (dg : decode cc pc = .ok (.invokestatic idx, 3)) (kk : ∀ v, ex = some v → g v = some r → J L n κ X (pc + 3) lv (.int v :: st)) : J L n κ X pc lv (a5 :: a4 :: a3 :: a2 :: a1 :: st) := by
  obtain ⟨v, h1, h2⟩ := g_bd hr
  exact j_callS K (As := [a1, a2, a3, a4, a5]) (rv := some (.int v)) (hc v h1) ml hav rfl hd hny hst rfl dg (kk v h1 h2)
theorem j_vM0 (K : jOk n cc own ret d κ) {ex : Option (Int32 × JX)} {g : Int32 × JX → Option β} {av : (Nat → Nat) → List Value} {k ci z : Nat} (hr : ex.bind g = some r) (hc : ∀ v, ex = some v → Cal L y cy ny ry dy av X ((fun v _ => (none, some (.int v.1), v.2)) v)) (ml : MLk own idx y cy ny ry 0) (hcl : ∃ q : vw_C, vwCl[ci]? = some q ∧ q.1 = y.cls) (hs : L.2.1 k = (10 + ci, z)) (hk : k < L.1) (hci : ci < 90) (hav : av (jad κ) = [.ref (jad κ k)]) (hd : dy + 1 ≤ d) (hny : ny ≤ 20) (hst : (st.map fun v => v.category).sum ≤ 8) (dg : decode cc pc = .ok (.invokevirtual idx, 3)) (kk : ∀ v, ex = some v → g v = some r → J L n κ (v.2) (pc + 3) lv (.int v.1 :: st)) : J L n κ X pc lv (.ref (jad κ k) :: st) := by
  obtain ⟨v, h1, h2⟩ := g_bd hr
  exact j_callV K (As := []) (rv := some (.int v.1)) (hc v h1) ml hcl hs hk hci hav rfl hd hny hst rfl dg (kk v h1 h2)
theorem j_vM1 (K : jOk n cc own ret d κ) {ex : Option (Int32 × JX)} {g : Int32 × JX → Option β} {av : (Nat → Nat) → List Value} {k ci z : Nat} {a1 : Value} (hr : ex.bind g = some r) (hc : ∀ v, ex = some v → Cal L y cy ny ry dy av X ((fun v _ => (none, some (.int v.1), v.2)) v)) (ml : MLk own idx y cy ny ry 1) (hcl : ∃ q : vw_C, vwCl[ci]? = some q ∧ q.1 = y.cls) (hs : L.2.1 k = (10 + ci, z)) (hk : k < L.1) (hci : ci < 90) (hav : av (jad κ) = [.ref (jad κ k), a1]) (hd : dy + 1 ≤ d) (hny : ny ≤ 20) (hst : (st.map fun v => v.category).sum ≤ 8) (dg : decode cc pc = .ok (.invokevirtual idx, 3)) (kk : ∀ v, ex = some v → g v = some r → J L n κ (v.2) (pc + 3) lv (.int v.1 :: st)) : J L n κ X pc lv (a1 :: .ref (jad κ k) :: st) := by
  obtain ⟨v, h1, h2⟩ := g_bd hr
  exact j_callV K (As := [a1]) (rv := some (.int v.1)) (hc v h1) ml hcl hs hk hci hav rfl hd hny hst rfl dg (kk v h1 h2)
theorem j_vM2 (K : jOk n cc own ret d κ) {ex : Option (Int32 × JX)} {g : Int32 × JX → Option β} {av : (Nat → Nat) → List Value} {k ci z : Nat} {a1 a2 : Value} (hr : ex.bind g = some r) (hc : ∀ v, ex = some v → Cal L y cy ny ry dy av X ((fun v _ => (none, some (.int v.1), v.2)) v)) (ml : MLk own idx y cy ny ry 2) (hcl : ∃ q : vw_C, vwCl[ci]? = some q ∧ q.1 = y.cls) (hs : L.2.1 k = (10 + ci, z)) (hk : k < L.1) (hci : ci < 90) (hav : av (jad κ) = [.ref (jad κ k), a1, a2]) (hd : dy + 1 ≤ d) (hny : ny ≤ 20) (hst : (st.map fun v => v.category).sum ≤ 8) (dg : decode cc pc = .ok (.invokevirtual idx, 3)) (kk : ∀ v, ex = some v → g v = some r → J L n κ (v.2) (pc + 3) lv (.int v.1 :: st)) : J L n κ X pc lv (a2 :: a1 :: .ref (jad κ k) :: st) := by
  obtain ⟨v, h1, h2⟩ := g_bd hr
  exact j_callV K (As := [a1, a2]) (rv := some (.int v.1)) (hc v h1) ml hcl hs hk hci hav rfl hd hny hst rfl dg (kk v h1 h2)
theorem j_vM3 (K : jOk n cc own ret d κ) {ex : Option (Int32 × JX)} {g : Int32 × JX → Option β} {av : (Nat → Nat) → List Value} {k ci z : Nat} {a1 a2 a3 : Value} (hr : ex.bind g = some r) (hc : ∀ v, ex = some v → Cal L y cy ny ry dy av X ((fun v _ => (none, some (.int v.1), v.2)) v)) (ml : MLk own idx y cy ny ry 3) (hcl : ∃ q : vw_C, vwCl[ci]? = some q ∧ q.1 = y.cls) (hs : L.2.1 k = (10 + ci, z)) (hk : k < L.1) (hci : ci < 90) (hav : av (jad κ) = [.ref (jad κ k), a1, a2, a3]) (hd : dy + 1 ≤ d) (hny : ny ≤ 20) (hst : (st.map fun v => v.category).sum ≤ 8) (dg : decode cc pc = .ok (.invokevirtual idx, 3)) (kk : ∀ v, ex = some v → g v = some r → J L n κ (v.2) (pc + 3) lv (.int v.1 :: st)) : J L n κ X pc lv (a3 :: a2 :: a1 :: .ref (jad κ k) :: st) := by
  obtain ⟨v, h1, h2⟩ := g_bd hr
  exact j_callV K (As := [a1, a2, a3]) (rv := some (.int v.1)) (hc v h1) ml hcl hs hk hci hav rfl hd hny hst rfl dg (kk v h1 h2)
theorem j_vM4 (K : jOk n cc own ret d κ) {ex : Option (Int32 × JX)} {g : Int32 × JX → Option β} {av : (Nat → Nat) → List Value} {k ci z : Nat} {a1 a2 a3 a4 : Value} (hr : ex.bind g = some r) (hc : ∀ v, ex = some v → Cal L y cy ny ry dy av X ((fun v _ => (none, some (.int v.1), v.2)) v)) (ml : MLk own idx y cy ny ry 4) (hcl : ∃ q : vw_C, vwCl[ci]? = some q ∧ q.1 = y.cls) (hs : L.2.1 k = (10 + ci, z)) (hk : k < L.1) (hci : ci < 90) (hav : av (jad κ) = [.ref (jad κ k), a1, a2, a3, a4]) (hd : dy + 1 ≤ d) (hny : ny ≤ 20) (hst : (st.map fun v => v.category).sum ≤ 8) (dg : decode cc pc = .ok (.invokevirtual idx, 3)) (kk : ∀ v, ex = some v → g v = some r → J L n κ (v.2) (pc + 3) lv (.int v.1 :: st)) : J L n κ X pc lv (a4 :: a3 :: a2 :: a1 :: .ref (jad κ k) :: st) := by
  obtain ⟨v, h1, h2⟩ := g_bd hr
  exact j_callV K (As := [a1, a2, a3, a4]) (rv := some (.int v.1)) (hc v h1) ml hcl hs hk hci hav rfl hd hny hst rfl dg (kk v h1 h2)
theorem j_vM5 (K : jOk n cc own ret d κ) {ex : Option (Int32 × JX)} {g : Int32 × JX → Option β} {av : (Nat → Nat) → List Value} {k ci z : Nat} {a1 a2 a3 a4 a5 : Value} (hr : ex.bind g = some r) (hc : ∀ v, ex = some v → Cal L y cy ny ry dy av X ((fun v _ => (none, some (.int v.1), v.2)) v)) (ml : MLk own idx y cy ny ry 5) (hcl : ∃ q : vw_C, vwCl[ci]? = some q ∧ q.1 = y.cls) (hs : L.2.1 k = (10 + ci, z)) (hk : k < L.1) (hci : ci < 90) (hav : av (jad κ) = [.ref (jad κ k), a1, a2, a3, a4, a5]) (hd : dy + 1 ≤ d) (hny : ny ≤ 20) (hst : (st.map fun v => v.category).sum ≤ 8) (dg : decode cc pc = .ok (.invokevirtual idx, 3)) (kk : ∀ v, ex = some v → g v = some r → J L n κ (v.2) (pc + 3) lv (.int v.1 :: st)) : J L n κ X pc lv (a5 :: a4 :: a3 :: a2 :: a1 :: .ref (jad κ k) :: st) := by
  obtain ⟨v, h1, h2⟩ := g_bd hr
  exact j_callV K (As := [a1, a2, a3, a4, a5]) (rv := some (.int v.1)) (hc v h1) ml hcl hs hk hci hav rfl hd hny hst rfl dg (kk v h1 h2)
theorem j_vU0 (K : jOk n cc own ret d κ) {ex : Option (JX)} {g : JX → Option β} {av : (Nat → Nat) → List Value} {k ci z : Nat} (hr : ex.bind g = some r) (hc : ∀ v, ex = some v → Cal L y cy ny ry dy av X ((fun v _ => (none, none, v)) v)) (ml : MLk own idx y cy ny ry 0) (hcl : ∃ q : vw_C, vwCl[ci]? = some q ∧ q.1 = y.cls) (hs : L.2.1 k = (10 + ci, z)) (hk : k < L.1) (hci : ci < 90) (hav : av (jad κ) = [.ref (jad κ k)]) (hd : dy + 1 ≤ d) (hny : ny ≤ 20) (hst : (st.map fun v => v.category).sum ≤ 8) (dg : decode cc pc = .ok (.invokevirtual idx, 3)) (kk : ∀ v, ex = some v → g v = some r → J L n κ (v) (pc + 3) lv st) : J L n κ X pc lv (.ref (jad κ k) :: st) := by
  obtain ⟨v, h1, h2⟩ := g_bd hr
  exact j_callV K (As := []) (rv := none) (hc v h1) ml hcl hs hk hci hav rfl hd hny hst rfl dg (kk v h1 h2)
theorem j_vU1 (K : jOk n cc own ret d κ) {ex : Option (JX)} {g : JX → Option β} {av : (Nat → Nat) → List Value} {k ci z : Nat} {a1 : Value} (hr : ex.bind g = some r) (hc : ∀ v, ex = some v → Cal L y cy ny ry dy av X ((fun v _ => (none, none, v)) v)) (ml : MLk own idx y cy ny ry 1) (hcl : ∃ q : vw_C, vwCl[ci]? = some q ∧ q.1 = y.cls) (hs : L.2.1 k = (10 + ci, z)) (hk : k < L.1) (hci : ci < 90) (hav : av (jad κ) = [.ref (jad κ k), a1]) (hd : dy + 1 ≤ d) (hny : ny ≤ 20) (hst : (st.map fun v => v.category).sum ≤ 8) (dg : decode cc pc = .ok (.invokevirtual idx, 3)) (kk : ∀ v, ex = some v → g v = some r → J L n κ (v) (pc + 3) lv st) : J L n κ X pc lv (a1 :: .ref (jad κ k) :: st) := by
  obtain ⟨v, h1, h2⟩ := g_bd hr
  exact j_callV K (As := [a1]) (rv := none) (hc v h1) ml hcl hs hk hci hav rfl hd hny hst rfl dg (kk v h1 h2)
theorem j_sU1 (K : jOk n cc own ret d κ) {ex : Option (JX)} {g : JX → Option β} {av : (Nat → Nat) → List Value} {a1 : Value} (hr : ex.bind g = some r) (hc : ∀ v, ex = some v → Cal L y cy ny ry dy av X ((fun v _ => (none, none, v)) v)) (ml : MSk own idx y cy ny ry 1) (hav : av (jad κ) = [a1]) (hd : dy + 1 ≤ d) (hny : ny ≤ 20) (hst : (st.map fun v => v.category).sum ≤ 8) (dg : decode cc pc = .ok (.invokestatic idx, 3)) (kk : ∀ v, ex = some v → g v = some r → J L n κ v (pc + 3) lv st) : J L n κ X pc lv (a1 :: st) := by
  obtain ⟨v, h1, h2⟩ := g_bd hr
  exact j_callS K (As := [a1]) (rv := none) (hc v h1) ml hav rfl hd hny hst rfl dg (kk v h1 h2)
theorem j_vU2 (K : jOk n cc own ret d κ) {ex : Option (JX)} {g : JX → Option β} {av : (Nat → Nat) → List Value} {k ci z : Nat} {a1 a2 : Value} (hr : ex.bind g = some r) (hc : ∀ v, ex = some v → Cal L y cy ny ry dy av X ((fun v _ => (none, none, v)) v)) (ml : MLk own idx y cy ny ry 2) (hcl : ∃ q : vw_C, vwCl[ci]? = some q ∧ q.1 = y.cls) (hs : L.2.1 k = (10 + ci, z)) (hk : k < L.1) (hci : ci < 90) (hav : av (jad κ) = [.ref (jad κ k), a1, a2]) (hd : dy + 1 ≤ d) (hny : ny ≤ 20) (hst : (st.map fun v => v.category).sum ≤ 8) (dg : decode cc pc = .ok (.invokevirtual idx, 3)) (kk : ∀ v, ex = some v → g v = some r → J L n κ (v) (pc + 3) lv st) : J L n κ X pc lv (a2 :: a1 :: .ref (jad κ k) :: st) := by
  obtain ⟨v, h1, h2⟩ := g_bd hr
  exact j_callV K (As := [a1, a2]) (rv := none) (hc v h1) ml hcl hs hk hci hav rfl hd hny hst rfl dg (kk v h1 h2)
theorem j_sU2 (K : jOk n cc own ret d κ) {ex : Option (JX)} {g : JX → Option β} {av : (Nat → Nat) → List Value} {a1 a2 : Value} (hr : ex.bind g = some r) (hc : ∀ v, ex = some v → Cal L y cy ny ry dy av X ((fun v _ => (none, none, v)) v)) (ml : MSk own idx y cy ny ry 2) (hav : av (jad κ) = [a1, a2]) (hd : dy + 1 ≤ d) (hny : ny ≤ 20) (hst : (st.map fun v => v.category).sum ≤ 8) (dg : decode cc pc = .ok (.invokestatic idx, 3)) (kk : ∀ v, ex = some v → g v = some r → J L n κ v (pc + 3) lv st) : J L n κ X pc lv (a2 :: a1 :: st) := by
  obtain ⟨v, h1, h2⟩ := g_bd hr
  exact j_callS K (As := [a1, a2]) (rv := none) (hc v h1) ml hav rfl hd hny hst rfl dg (kk v h1 h2)
theorem j_vU3 (K : jOk n cc own ret d κ) {ex : Option (JX)} {g : JX → Option β} {av : (Nat → Nat) → List Value} {k ci z : Nat} {a1 a2 a3 : Value} (hr : ex.bind g = some r) (hc : ∀ v, ex = some v → Cal L y cy ny ry dy av X ((fun v _ => (none, none, v)) v)) (ml : MLk own idx y cy ny ry 3) (hcl : ∃ q : vw_C, vwCl[ci]? = some q ∧ q.1 = y.cls) (hs : L.2.1 k = (10 + ci, z)) (hk : k < L.1) (hci : ci < 90) (hav : av (jad κ) = [.ref (jad κ k), a1, a2, a3]) (hd : dy + 1 ≤ d) (hny : ny ≤ 20) (hst : (st.map fun v => v.category).sum ≤ 8) (dg : decode cc pc = .ok (.invokevirtual idx, 3)) (kk : ∀ v, ex = some v → g v = some r → J L n κ (v) (pc + 3) lv st) : J L n κ X pc lv (a3 :: a2 :: a1 :: .ref (jad κ k) :: st) := by
  obtain ⟨v, h1, h2⟩ := g_bd hr
  exact j_callV K (As := [a1, a2, a3]) (rv := none) (hc v h1) ml hcl hs hk hci hav rfl hd hny hst rfl dg (kk v h1 h2)
theorem j_sU3 (K : jOk n cc own ret d κ) {ex : Option (JX)} {g : JX → Option β} {av : (Nat → Nat) → List Value} {a1 a2 a3 : Value} (hr : ex.bind g = some r) (hc : ∀ v, ex = some v → Cal L y cy ny ry dy av X ((fun v _ => (none, none, v)) v)) (ml : MSk own idx y cy ny ry 3) (hav : av (jad κ) = [a1, a2, a3]) (hd : dy + 1 ≤ d) (hny : ny ≤ 20) (hst : (st.map fun v => v.category).sum ≤ 8) (dg : decode cc pc = .ok (.invokestatic idx, 3)) (kk : ∀ v, ex = some v → g v = some r → J L n κ v (pc + 3) lv st) : J L n κ X pc lv (a3 :: a2 :: a1 :: st) := by
  obtain ⟨v, h1, h2⟩ := g_bd hr
  exact j_callS K (As := [a1, a2, a3]) (rv := none) (hc v h1) ml hav rfl hd hny hst rfl dg (kk v h1 h2)
theorem j_vU4 (K : jOk n cc own ret d κ) {ex : Option (JX)} {g : JX → Option β} {av : (Nat → Nat) → List Value} {k ci z : Nat} {a1 a2 a3 a4 : Value} (hr : ex.bind g = some r) (hc : ∀ v, ex = some v → Cal L y cy ny ry dy av X ((fun v _ => (none, none, v)) v)) (ml : MLk own idx y cy ny ry 4) (hcl : ∃ q : vw_C, vwCl[ci]? = some q ∧ q.1 = y.cls) (hs : L.2.1 k = (10 + ci, z)) (hk : k < L.1) (hci : ci < 90) (hav : av (jad κ) = [.ref (jad κ k), a1, a2, a3, a4]) (hd : dy + 1 ≤ d) (hny : ny ≤ 20) (hst : (st.map fun v => v.category).sum ≤ 8) (dg : decode cc pc = .ok (.invokevirtual idx, 3)) (kk : ∀ v, ex = some v → g v = some r → J L n κ (v) (pc + 3) lv st) : J L n κ X pc lv (a4 :: a3 :: a2 :: a1 :: .ref (jad κ k) :: st) := by
  obtain ⟨v, h1, h2⟩ := g_bd hr
  exact j_callV K (As := [a1, a2, a3, a4]) (rv := none) (hc v h1) ml hcl hs hk hci hav rfl hd hny hst rfl dg (kk v h1 h2)
theorem j_sU4 (K : jOk n cc own ret d κ) {ex : Option (JX)} {g : JX → Option β} {av : (Nat → Nat) → List Value} {a1 a2 a3 a4 : Value} (hr : ex.bind g = some r) (hc : ∀ v, ex = some v → Cal L y cy ny ry dy av X ((fun v _ => (none, none, v)) v)) (ml : MSk own idx y cy ny ry 4) (hav : av (jad κ) = [a1, a2, a3, a4]) (hd : dy + 1 ≤ d) (hny : ny ≤ 20) (hst : (st.map fun v => v.category).sum ≤ 8) (dg : decode cc pc = .ok (.invokestatic idx, 3)) (kk : ∀ v, ex = some v → g v = some r → J L n κ v (pc + 3) lv st) : J L n κ X pc lv (a4 :: a3 :: a2 :: a1 :: st) := by
  obtain ⟨v, h1, h2⟩ := g_bd hr
  exact j_callS K (As := [a1, a2, a3, a4]) (rv := none) (hc v h1) ml hav rfl hd hny hst rfl dg (kk v h1 h2)
theorem j_vU5 (K : jOk n cc own ret d κ) {ex : Option (JX)} {g : JX → Option β} {av : (Nat → Nat) → List Value} {k ci z : Nat} {a1 a2 a3 a4 a5 : Value} (hr : ex.bind g = some r) (hc : ∀ v, ex = some v → Cal L y cy ny ry dy av X ((fun v _ => (none, none, v)) v)) (ml : MLk own idx y cy ny ry 5) (hcl : ∃ q : vw_C, vwCl[ci]? = some q ∧ q.1 = y.cls) (hs : L.2.1 k = (10 + ci, z)) (hk : k < L.1) (hci : ci < 90) (hav : av (jad κ) = [.ref (jad κ k), a1, a2, a3, a4, a5]) (hd : dy + 1 ≤ d) (hny : ny ≤ 20) (hst : (st.map fun v => v.category).sum ≤ 8) (dg : decode cc pc = .ok (.invokevirtual idx, 3)) (kk : ∀ v, ex = some v → g v = some r → J L n κ (v) (pc + 3) lv st) : J L n κ X pc lv (a5 :: a4 :: a3 :: a2 :: a1 :: .ref (jad κ k) :: st) := by
  obtain ⟨v, h1, h2⟩ := g_bd hr
  exact j_callV K (As := [a1, a2, a3, a4, a5]) (rv := none) (hc v h1) ml hcl hs hk hci hav rfl hd hny hst rfl dg (kk v h1 h2)
theorem j_sU5 (K : jOk n cc own ret d κ) {ex : Option (JX)} {g : JX → Option β} {av : (Nat → Nat) → List Value} {a1 a2 a3 a4 a5 : Value} (hr : ex.bind g = some r) (hc : ∀ v, ex = some v → Cal L y cy ny ry dy av X ((fun v _ => (none, none, v)) v)) (ml : MSk own idx y cy ny ry 5) (hav : av (jad κ) = [a1, a2, a3, a4, a5]) (hd : dy + 1 ≤ d) (hny : ny ≤ 20) (hst : (st.map fun v => v.category).sum ≤ 8) (dg : decode cc pc = .ok (.invokestatic idx, 3)) (kk : ∀ v, ex = some v → g v = some r → J L n κ v (pc + 3) lv st) : J L n κ X pc lv (a5 :: a4 :: a3 :: a2 :: a1 :: st) := by
  obtain ⟨v, h1, h2⟩ := g_bd hr
  exact j_callS K (As := [a1, a2, a3, a4, a5]) (rv := none) (hc v h1) ml hav rfl hd hny hst rfl dg (kk v h1 h2)
theorem j_vR0 (K : jOk n cc own ret d κ) {ex : Option (Nat)} {g : Nat → Option β} {av : (Nat → Nat) → List Value} {k ci z : Nat} (hr : ex.bind g = some r) (hc : ∀ v, ex = some v → Cal L y cy ny ry dy av X ((fun v ad => (none, some (.ref (ad v)), X)) v)) (ml : MLk own idx y cy ny ry 0) (hcl : ∃ q : vw_C, vwCl[ci]? = some q ∧ q.1 = y.cls) (hs : L.2.1 k = (10 + ci, z)) (hk : k < L.1) (hci : ci < 90) (hav : av (jad κ) = [.ref (jad κ k)]) (hd : dy + 1 ≤ d) (hny : ny ≤ 20) (hst : (st.map fun v => v.category).sum ≤ 8) (dg : decode cc pc = .ok (.invokevirtual idx, 3)) (kk : ∀ v, ex = some v → g v = some r → J L n κ X (pc + 3) lv (.ref (jad κ v) :: st)) : J L n κ X pc lv (.ref (jad κ k) :: st) := by
  obtain ⟨v, h1, h2⟩ := g_bd hr
  exact j_callV K (As := []) (rv := some (.ref (jad κ v))) (hc v h1) ml hcl hs hk hci hav rfl hd hny hst rfl dg (kk v h1 h2)
theorem j_vR1 (K : jOk n cc own ret d κ) {ex : Option (Nat)} {g : Nat → Option β} {av : (Nat → Nat) → List Value} {k ci z : Nat} {a1 : Value} (hr : ex.bind g = some r) (hc : ∀ v, ex = some v → Cal L y cy ny ry dy av X ((fun v ad => (none, some (.ref (ad v)), X)) v)) (ml : MLk own idx y cy ny ry 1) (hcl : ∃ q : vw_C, vwCl[ci]? = some q ∧ q.1 = y.cls) (hs : L.2.1 k = (10 + ci, z)) (hk : k < L.1) (hci : ci < 90) (hav : av (jad κ) = [.ref (jad κ k), a1]) (hd : dy + 1 ≤ d) (hny : ny ≤ 20) (hst : (st.map fun v => v.category).sum ≤ 8) (dg : decode cc pc = .ok (.invokevirtual idx, 3)) (kk : ∀ v, ex = some v → g v = some r → J L n κ X (pc + 3) lv (.ref (jad κ v) :: st)) : J L n κ X pc lv (a1 :: .ref (jad κ k) :: st) := by
  obtain ⟨v, h1, h2⟩ := g_bd hr
  exact j_callV K (As := [a1]) (rv := some (.ref (jad κ v))) (hc v h1) ml hcl hs hk hci hav rfl hd hny hst rfl dg (kk v h1 h2)
theorem j_vR2 (K : jOk n cc own ret d κ) {ex : Option (Nat)} {g : Nat → Option β} {av : (Nat → Nat) → List Value} {k ci z : Nat} {a1 a2 : Value} (hr : ex.bind g = some r) (hc : ∀ v, ex = some v → Cal L y cy ny ry dy av X ((fun v ad => (none, some (.ref (ad v)), X)) v)) (ml : MLk own idx y cy ny ry 2) (hcl : ∃ q : vw_C, vwCl[ci]? = some q ∧ q.1 = y.cls) (hs : L.2.1 k = (10 + ci, z)) (hk : k < L.1) (hci : ci < 90) (hav : av (jad κ) = [.ref (jad κ k), a1, a2]) (hd : dy + 1 ≤ d) (hny : ny ≤ 20) (hst : (st.map fun v => v.category).sum ≤ 8) (dg : decode cc pc = .ok (.invokevirtual idx, 3)) (kk : ∀ v, ex = some v → g v = some r → J L n κ X (pc + 3) lv (.ref (jad κ v) :: st)) : J L n κ X pc lv (a2 :: a1 :: .ref (jad κ k) :: st) := by
  obtain ⟨v, h1, h2⟩ := g_bd hr
  exact j_callV K (As := [a1, a2]) (rv := some (.ref (jad κ v))) (hc v h1) ml hcl hs hk hci hav rfl hd hny hst rfl dg (kk v h1 h2)
theorem j_vR3 (K : jOk n cc own ret d κ) {ex : Option (Nat)} {g : Nat → Option β} {av : (Nat → Nat) → List Value} {k ci z : Nat} {a1 a2 a3 : Value} (hr : ex.bind g = some r) (hc : ∀ v, ex = some v → Cal L y cy ny ry dy av X ((fun v ad => (none, some (.ref (ad v)), X)) v)) (ml : MLk own idx y cy ny ry 3) (hcl : ∃ q : vw_C, vwCl[ci]? = some q ∧ q.1 = y.cls) (hs : L.2.1 k = (10 + ci, z)) (hk : k < L.1) (hci : ci < 90) (hav : av (jad κ) = [.ref (jad κ k), a1, a2, a3]) (hd : dy + 1 ≤ d) (hny : ny ≤ 20) (hst : (st.map fun v => v.category).sum ≤ 8) (dg : decode cc pc = .ok (.invokevirtual idx, 3)) (kk : ∀ v, ex = some v → g v = some r → J L n κ X (pc + 3) lv (.ref (jad κ v) :: st)) : J L n κ X pc lv (a3 :: a2 :: a1 :: .ref (jad κ k) :: st) := by
  obtain ⟨v, h1, h2⟩ := g_bd hr
  exact j_callV K (As := [a1, a2, a3]) (rv := some (.ref (jad κ v))) (hc v h1) ml hcl hs hk hci hav rfl hd hny hst rfl dg (kk v h1 h2)
theorem j_vR4 (K : jOk n cc own ret d κ) {ex : Option (Nat)} {g : Nat → Option β} {av : (Nat → Nat) → List Value} {k ci z : Nat} {a1 a2 a3 a4 : Value} (hr : ex.bind g = some r) (hc : ∀ v, ex = some v → Cal L y cy ny ry dy av X ((fun v ad => (none, some (.ref (ad v)), X)) v)) (ml : MLk own idx y cy ny ry 4) (hcl : ∃ q : vw_C, vwCl[ci]? = some q ∧ q.1 = y.cls) (hs : L.2.1 k = (10 + ci, z)) (hk : k < L.1) (hci : ci < 90) (hav : av (jad κ) = [.ref (jad κ k), a1, a2, a3, a4]) (hd : dy + 1 ≤ d) (hny : ny ≤ 20) (hst : (st.map fun v => v.category).sum ≤ 8) (dg : decode cc pc = .ok (.invokevirtual idx, 3)) (kk : ∀ v, ex = some v → g v = some r → J L n κ X (pc + 3) lv (.ref (jad κ v) :: st)) : J L n κ X pc lv (a4 :: a3 :: a2 :: a1 :: .ref (jad κ k) :: st) := by
  obtain ⟨v, h1, h2⟩ := g_bd hr
  exact j_callV K (As := [a1, a2, a3, a4]) (rv := some (.ref (jad κ v))) (hc v h1) ml hcl hs hk hci hav rfl hd hny hst rfl dg (kk v h1 h2)
theorem j_vR5 (K : jOk n cc own ret d κ) {ex : Option (Nat)} {g : Nat → Option β} {av : (Nat → Nat) → List Value} {k ci z : Nat} {a1 a2 a3 a4 a5 : Value} (hr : ex.bind g = some r) (hc : ∀ v, ex = some v → Cal L y cy ny ry dy av X ((fun v ad => (none, some (.ref (ad v)), X)) v)) (ml : MLk own idx y cy ny ry 5) (hcl : ∃ q : vw_C, vwCl[ci]? = some q ∧ q.1 = y.cls) (hs : L.2.1 k = (10 + ci, z)) (hk : k < L.1) (hci : ci < 90) (hav : av (jad κ) = [.ref (jad κ k), a1, a2, a3, a4, a5]) (hd : dy + 1 ≤ d) (hny : ny ≤ 20) (hst : (st.map fun v => v.category).sum ≤ 8) (dg : decode cc pc = .ok (.invokevirtual idx, 3)) (kk : ∀ v, ex = some v → g v = some r → J L n κ X (pc + 3) lv (.ref (jad κ v) :: st)) : J L n κ X pc lv (a5 :: a4 :: a3 :: a2 :: a1 :: .ref (jad κ k) :: st) := by
  obtain ⟨v, h1, h2⟩ := g_bd hr
  exact j_callV K (As := [a1, a2, a3, a4, a5]) (rv := some (.ref (jad κ v))) (hc v h1) ml hcl hs hk hci hav rfl hd hny hst rfl dg (kk v h1 h2)
/-- none or a cell: by cases -/
def oC {α : Type} (o : Option Nat) (a : α) (b : Nat → α) : α := match o with
  | none => a
  | some q => b q
theorem j_vO0 (K : jOk n cc own ret d κ) {ex : Option (Option Nat)} {g1 : Option β} {g2 : Nat → Option β} {av : (Nat → Nat) → List Value} {k ci z : Nat} (hr : ex.bind (fun o => oC o g1 g2) = some r) (hc : ∀ v, ex = some v → Cal L y cy ny ry dy av X (fun ad => (none, some (va_rf (v.map ad)), X))) (ml : MLk own idx y cy ny ry 0) (hcl : ∃ q : vw_C, vwCl[ci]? = some q ∧ q.1 = y.cls) (hs : L.2.1 k = (10 + ci, z)) (hk : k < L.1) (hci : ci < 90) (hav : av (jad κ) = [.ref (jad κ k)]) (hd : dy + 1 ≤ d) (hny : ny ≤ 20) (hst : (st.map fun v => v.category).sum ≤ 8) (dg : decode cc pc = .ok (.invokevirtual idx, 3)) (k1 : ex = some none → g1 = some r → J L n κ X (pc + 3) lv (.null :: st)) (k2 : ∀ q, ex = some (some q) → g2 q = some r → J L n κ X (pc + 3) lv (.ref (jad κ q) :: st)) : J L n κ X pc lv (.ref (jad κ k) :: st) := by
  obtain ⟨v, h1, h2⟩ := g_bd hr
  cases v with
  | none => exact j_callV K (As := []) (rv := some .null) (hc none h1) ml hcl hs hk hci hav rfl hd hny hst rfl dg (k1 h1 h2)
  | some q => exact j_callV K (As := []) (rv := some (.ref (jad κ q))) (hc (some q) h1) ml hcl hs hk hci hav rfl hd hny hst rfl dg (k2 q h1 h2)
theorem j_vO1 (K : jOk n cc own ret d κ) {ex : Option (Option Nat)} {g1 : Option β} {g2 : Nat → Option β} {av : (Nat → Nat) → List Value} {k ci z : Nat} {a1 : Value} (hr : ex.bind (fun o => oC o g1 g2) = some r) (hc : ∀ v, ex = some v → Cal L y cy ny ry dy av X (fun ad => (none, some (va_rf (v.map ad)), X))) (ml : MLk own idx y cy ny ry 1) (hcl : ∃ q : vw_C, vwCl[ci]? = some q ∧ q.1 = y.cls) (hs : L.2.1 k = (10 + ci, z)) (hk : k < L.1) (hci : ci < 90) (hav : av (jad κ) = [.ref (jad κ k), a1]) (hd : dy + 1 ≤ d) (hny : ny ≤ 20) (hst : (st.map fun v => v.category).sum ≤ 8) (dg : decode cc pc = .ok (.invokevirtual idx, 3)) (k1 : ex = some none → g1 = some r → J L n κ X (pc + 3) lv (.null :: st)) (k2 : ∀ q, ex = some (some q) → g2 q = some r → J L n κ X (pc + 3) lv (.ref (jad κ q) :: st)) : J L n κ X pc lv (a1 :: .ref (jad κ k) :: st) := by
  obtain ⟨v, h1, h2⟩ := g_bd hr
  cases v with
  | none => exact j_callV K (As := [a1]) (rv := some .null) (hc none h1) ml hcl hs hk hci hav rfl hd hny hst rfl dg (k1 h1 h2)
  | some q => exact j_callV K (As := [a1]) (rv := some (.ref (jad κ q))) (hc (some q) h1) ml hcl hs hk hci hav rfl hd hny hst rfl dg (k2 q h1 h2)
theorem j_vO2 (K : jOk n cc own ret d κ) {ex : Option (Option Nat)} {g1 : Option β} {g2 : Nat → Option β} {av : (Nat → Nat) → List Value} {k ci z : Nat} {a1 a2 : Value} (hr : ex.bind (fun o => oC o g1 g2) = some r) (hc : ∀ v, ex = some v → Cal L y cy ny ry dy av X (fun ad => (none, some (va_rf (v.map ad)), X))) (ml : MLk own idx y cy ny ry 2) (hcl : ∃ q : vw_C, vwCl[ci]? = some q ∧ q.1 = y.cls) (hs : L.2.1 k = (10 + ci, z)) (hk : k < L.1) (hci : ci < 90) (hav : av (jad κ) = [.ref (jad κ k), a1, a2]) (hd : dy + 1 ≤ d) (hny : ny ≤ 20) (hst : (st.map fun v => v.category).sum ≤ 8) (dg : decode cc pc = .ok (.invokevirtual idx, 3)) (k1 : ex = some none → g1 = some r → J L n κ X (pc + 3) lv (.null :: st)) (k2 : ∀ q, ex = some (some q) → g2 q = some r → J L n κ X (pc + 3) lv (.ref (jad κ q) :: st)) : J L n κ X pc lv (a2 :: a1 :: .ref (jad κ k) :: st) := by
  obtain ⟨v, h1, h2⟩ := g_bd hr
  cases v with
  | none => exact j_callV K (As := [a1, a2]) (rv := some .null) (hc none h1) ml hcl hs hk hci hav rfl hd hny hst rfl dg (k1 h1 h2)
  | some q => exact j_callV K (As := [a1, a2]) (rv := some (.ref (jad κ q))) (hc (some q) h1) ml hcl hs hk hci hav rfl hd hny hst rfl dg (k2 q h1 h2)
end JV
end
section
/-! ===== the layout of the class: 176 cells; of the reference: 34 ===== -/
def obX (ad : Nat → Nat) (f : Nat → Int32) (k ci : Nat) : List Value := match ci with
  | 0 => [.ref (ad 46), .ref (ad 47), .ref (ad 48), .int (f 3)]
  | 1 => [.ref (ad (k + 1)), .ref (ad (k + 2)), .ref (ad (k + 3)), .int (f 3), .int (f 4)]
  | 2 => [.ref (ad 1), .ref (ad 11), .ref (ad 36), .ref (ad 37), .ref (ad 38), .ref (ad 39), .ref (ad 40), .ref (ad 41), .ref (ad 42), .ref (ad 43)]
  | 3 => [.ref (ad 50), .ref (ad 51), .ref (ad 52), .int (f 3)]
  | 4 => [.ref (ad 1), .ref (ad 11), .ref (ad 34), .ref (ad 35), .ref (ad 45), .ref (ad 49)]
  | 5 => [.ref (ad 1), .ref (ad 11), .ref (ad 34), .ref (ad 35), .ref (ad 54), .ref (ad 55)]
  | 6 => [.int (f 0), .int (f 1)]
  | 7 => [.ref (ad (k + 1)), .ref (ad (k + 2)), .ref (ad (k + 3)), .int (f 3), .int (f 4), .int (f 5)]
  | 8 => [.ref (ad 1), .ref (ad 12), .int (f 2)]
  | 9 => [.ref (ad 2), .ref (ad 3), .ref (ad 4), .ref (ad 5), .ref (ad 6), .ref (ad 7), .ref (ad 8), .ref (ad 9), .ref (ad 10), .int (f 9)]
  | 10 => [.ref (ad 1), .ref (ad 11), .ref (ad 34), .ref (ad 35), .ref (ad 44), .ref (ad 53), .int (f 6), .int (f 7), .int (f 8)]
  | _ => []
def shX (k : Nat) : Nat × Nat := if k < 56 then ([(20, 0), (19, 0), (0, 60), (2, 60), (1, 60), (1, 60), (1, 60), (0, 60), (0, 60), (0, 60), (156, 60), (18, 0), (3, 3), (17, 0), (0, 8), (0, 8), (11, 0), (0, 60), (1, 60), (1, 60), (17, 0), (0, 8), (0, 8), (11, 0), (0, 60), (1, 60), (1, 60), (17, 0), (0, 8), (0, 8), (11, 0), (0, 60), (1, 60), (1, 60), (16, 0), (12, 0), (1, 60), (0, 60), (2, 60), (0, 60), (0, 60), (216, 60), (1, 60), (1, 60), (14, 0), (10, 0), (0, 60), (0, 60), (1, 60), (13, 0), (0, 60), (0, 4), (0, 4), (15, 0), (0, 60), (0, 20)] : List (Nat × Nat)).getD k (0, 20) else (0, 20)
def LX : Lay := (176, shX, obX)
def obY (ad : Nat → Nat) (f : Nat → Int32) (_ ci : Nat) : List Value := match ci with
  | 11 => [.int (f 0), .int (f 1), .int (f 2), .ref (ad 1), .ref (ad 2), .ref (ad 3), .ref (ad 4), .ref (ad 5), .ref (ad 6), .ref (ad 7), .ref (ad 8), .ref (ad 9), .int (f 12), .ref (ad 10), .ref (ad 11), .ref (ad 12), .ref (ad 13), .ref (ad 14), .ref (ad 15), .ref (ad 16), .ref (ad 17), .ref (ad 18), .ref (ad 19), .ref (ad 20), .ref (ad 21), .ref (ad 22), .ref (ad 23), .ref (ad 24), .int (f 28), .int (f 29), .int (f 30), .ref (ad 25), .ref (ad 26), .ref (ad 27), .int (f 34), .int (f 35), .int (f 36), .int (f 37), .ref (ad 28), .ref (ad 29), .ref (ad 30), .int (f 41), .ref (ad 31), .ref (ad 32), .int (f 44), .ref (ad 33)]
  | _ => []
def shY (k : Nat) : Nat × Nat := ([(21, 0), (1, 60), (1, 60), (0, 60), (2, 60), (0, 60), (0, 60), (0, 1200), (1, 60), (0, 60), (0, 4), (0, 4), (0, 32), (0, 32), (1, 4), (1, 4), (0, 4), (0, 240), (1, 240), (1, 60), (0, 60), (2, 60), (0, 60), (0, 60), (0, 1200), (0, 60), (0, 60), (1, 60), (0, 600), (0, 600), (1, 600), (1, 60), (1, 60), (0, 20)] : List (Nat × Nat)).getD k (0, 0)
def LY : Lay := (34, shY, obY)
def isRt (q : Nat) : Bool := decide (q = 13) || (decide (q = 20) || decide (q = 27))
def isCr (q : Nat) : Bool := decide (q = 16) || (decide (q = 23) || decide (q = 30))
def isI20 (q : Nat) : Bool := decide (q = 55) || (decide (56 ≤ q) && decide (q < 176))
theorem isRt_c {q : Nat} (h : isRt q = true) : q = 13 ∨ q = 20 ∨ q = 27 := by simpa [isRt] using h
theorem isCr_c {q : Nat} (h : isCr q = true) : q = 16 ∨ q = 23 ∨ q = 30 := by simpa [isCr] using h
theorem isI20_c {q : Nat} (h : isI20 q = true) : q = 55 ∨ (56 ≤ q ∧ q < 176) := by simpa [isI20] using h
theorem rtc {q : Nat} (h : isRt q = true) : isCr (q + 3) = true := by rcases isRt_c h with rfl | rfl | rfl <;> rfl
theorem i20 {q : Nat} (h : isI20 q = true) : LX.2.1 q = (0, 20) := by
  rcases isI20_c h with rfl | ⟨h1, h2⟩
  · rfl
  · show shX q = (0, 20)
    unfold shX
    rw [if_neg (by omega)]
theorem i20l {q : Nat} (h : isI20 q = true) : q < LX.1 := by
  show q < 176
  rcases isI20_c h with rfl | ⟨h1, h2⟩ <;> omega
theorem rt0 {q : Nat} (h : isRt q = true) : LX.2.1 q = (17, 0) := by rcases isRt_c h with rfl | rfl | rfl <;> rfl
theorem rt0l {q : Nat} (h : isRt q = true) : q < LX.1 := by rcases isRt_c h with rfl | rfl | rfl <;> exact Nat.le_of_ble_eq_true rfl
theorem rt1 {q : Nat} (h : isRt q = true) : LX.2.1 (q + 1) = (0, 8) := by rcases isRt_c h with rfl | rfl | rfl <;> rfl
theorem rt1l {q : Nat} (h : isRt q = true) : (q + 1) < LX.1 := by rcases isRt_c h with rfl | rfl | rfl <;> exact Nat.le_of_ble_eq_true rfl
theorem rt2 {q : Nat} (h : isRt q = true) : LX.2.1 (q + 2) = (0, 8) := by rcases isRt_c h with rfl | rfl | rfl <;> rfl
theorem rt2l {q : Nat} (h : isRt q = true) : (q + 2) < LX.1 := by rcases isRt_c h with rfl | rfl | rfl <;> exact Nat.le_of_ble_eq_true rfl
theorem cr0 {q : Nat} (h : isCr q = true) : LX.2.1 q = (11, 0) := by rcases isCr_c h with rfl | rfl | rfl <;> rfl
theorem cr0l {q : Nat} (h : isCr q = true) : q < LX.1 := by rcases isCr_c h with rfl | rfl | rfl <;> exact Nat.le_of_ble_eq_true rfl
theorem cr1 {q : Nat} (h : isCr q = true) : LX.2.1 (q + 1) = (0, 60) := by rcases isCr_c h with rfl | rfl | rfl <;> rfl
theorem cr1l {q : Nat} (h : isCr q = true) : (q + 1) < LX.1 := by rcases isCr_c h with rfl | rfl | rfl <;> exact Nat.le_of_ble_eq_true rfl
theorem cr2 {q : Nat} (h : isCr q = true) : LX.2.1 (q + 2) = (1, 60) := by rcases isCr_c h with rfl | rfl | rfl <;> rfl
theorem cr2l {q : Nat} (h : isCr q = true) : (q + 2) < LX.1 := by rcases isCr_c h with rfl | rfl | rfl <;> exact Nat.le_of_ble_eq_true rfl
theorem cr3 {q : Nat} (h : isCr q = true) : LX.2.1 (q + 3) = (1, 60) := by rcases isCr_c h with rfl | rfl | rfl <;> rfl
theorem cr3l {q : Nat} (h : isCr q = true) : (q + 3) < LX.1 := by rcases isCr_c h with rfl | rfl | rfl <;> exact Nat.le_of_ble_eq_true rfl
end
section
/-! ===== what each method of the class and of the reference does, method by method, out of its bytecode by program (gen.py) ===== -/
def b_X0_add_56 (X : JX) (v1 : Int32) (v2 : Int32) : Option JX := (if okI v1 60 = true then nX (pX X (47) (upd (X (47)) v1.toNatClampNeg v2)) fun X3 => some X3 else none)
def f_X0_add (X : JX) (v1 : Int32) (v2 : Int32) : Option JX := (if v1 < 0 then some X else (if v1 < 60 then (if okI v1 60 = true then (if ¬ (X (47) v1.toNatClampNeg) = 0 then b_X0_add_56 X v1 v2 else (if (X (45) 3) < 0 then b_X0_add_56 X v1 v2 else (if 60 ≤ (X (45) 3) then b_X0_add_56 X v1 v2 else (if okI (X (45) 3) 60 = true then nX (pX X (46) (upd (X (46)) (X (45) 3).toNatClampNeg v1)) fun X1 => nX (pX X1 (45) (upd (X1 (45)) 3 ((X1 (45) 3) + (1)))) fun X2 => b_X0_add_56 X2 v1 v2 else none)))) else none) else some X))
def f_X0_count (X : JX) : Option Int32 := some (X (45) 3)
def lb_X0_endWork_2 (rec2 : JX → Int32 → Option JX) (X : JX) (v1 : Int32) : Option JX := (if 60 ≤ v1 then some X else (if okI v1 60 = true then nX (pX X (48) (upd (X (48)) v1.toNatClampNeg (vp_nar .boolean (0)))) fun X1 => nV (v1 + 1) fun t2 => rec2 X1 t2 else none))
def l_X0_endWork_2 : JX → Int32 → Option JX := loop2 (lb_X0_endWork_2 ) 1000
def f_X0_endWork (X : JX) : Option JX := l_X0_endWork_2 X (0)
def b_X0_firstReady_44 (rec2 : Int32 → Option Int32) (X : JX) (v1 : Int32) : Option Int32 := nV (v1 + 1) fun t2 => rec2 t2
def lb_X0_firstReady_2 (X : JX) (rec2 : Int32 → Option Int32) (v1 : Int32) : Option Int32 := (if (X (45) 3) ≤ v1 then some (-1) else (if 60 ≤ v1 then some (-1) else (if okI v1 60 = true then nV (X (46) v1.toNatClampNeg) fun t1 => (if t1 < 0 then b_X0_firstReady_44 rec2 X v1 else (if 60 ≤ t1 then b_X0_firstReady_44 rec2 X v1 else (if okI t1 60 = true then (if ¬ (X (48) t1.toNatClampNeg) = 0 then b_X0_firstReady_44 rec2 X v1 else some t1) else none))) else none)))
def l_X0_firstReady_2 (X : JX) : Int32 → Option Int32 := loop1 (lb_X0_firstReady_2 X) 1000
def f_X0_firstReady (X : JX) : Option Int32 := l_X0_firstReady_2 X (0)
def f_X0_kindOf (X : JX) (v1 : Int32) : Option Int32 := (if v1 < 0 then some (0) else (if 60 ≤ v1 then some (0) else (if okI v1 60 = true then some (X (47) v1.toNatClampNeg) else none)))
def b_X0_takeAway_65 (rec20 : JX → Int32 → Int32 → Option JX) (X : JX) (v1 : Int32) (v2 : Int32) (v3 : Int32) : Option JX := nV (v3 + 1) fun t7 => rec20 X v2 t7
def lb_X0_takeAway_20 (v1 : Int32) (rec20 : JX → Int32 → Int32 → Option JX) (X : JX) (v2 : Int32) (v3 : Int32) : Option JX := (if (X (45) 3) ≤ v3 then nX (pX X (45) (upd (X (45)) 3 v2)) fun X3 => some X3 else (if 60 ≤ v3 then nX (pX X (45) (upd (X (45)) 3 v2)) fun X4 => some X4 else (if okI v3 60 = true then (if (X (46) v3.toNatClampNeg) = v1 then b_X0_takeAway_65 rec20 X v1 v2 v3 else (if 60 ≤ v2 then b_X0_takeAway_65 rec20 X v1 v2 v3 else (if okI v3 60 = true then (if okI v2 60 = true then nX (pX X (46) (upd (X (46)) v2.toNatClampNeg (X (46) v3.toNatClampNeg))) fun X5 => nV (v2 + 1) fun t6 => b_X0_takeAway_65 rec20 X5 v1 t6 v3 else none) else none))) else none)))
def l_X0_takeAway_20 (v1 : Int32) : JX → Int32 → Int32 → Option JX := loop3 (lb_X0_takeAway_20 v1) 1000
def f_X0_takeAway (X : JX) (v1 : Int32) : Option JX := (f_X0_kindOf X v1).bind fun t1 => (if ¬ t1 = 0 then (if okI v1 60 = true then nX (pX X (47) (upd (X (47)) v1.toNatClampNeg (0))) fun X2 => l_X0_takeAway_20 v1 X2 (0) (0) else none) else some X)
def f_X0_putOff (X : JX) (v1 : Int32) : Option JX := (f_X0_takeAway X v1).bind fun X1 => (f_X0_add X1 v1 (1)).bind fun X2 => (if v1 < 0 then some X2 else (if 60 ≤ v1 then some X2 else (if okI v1 60 = true then nX (pX X2 (48) (upd (X2 (48)) v1.toNatClampNeg (vp_nar .boolean (1)))) fun X3 => some X3 else none)))
def f_X1_hasMet (X : JX) (q0 : Nat) (v1 : Int32) : Option Int32 := (if v1 < 0 then some (0) else (if 60 ≤ v1 then some (0) else (if okI v1 60 = true then (if (X (q0 + 3) v1.toNatClampNeg) = 0 then some (0) else some (1)) else none)))
def b_X1_letWait_15 (X : JX) (q0 : Nat) (v1 : Int32) (s0 : Int32) : Option JX := (if s0 = 0 then some X else (if okI v1 60 = true then (if ¬ (X (q0 + 2) v1.toNatClampNeg) = 0 then some X else (if (X q0 3) < 0 then some X else (if 60 ≤ (X q0 3) then some X else (if okI (X q0 3) 60 = true then nX (pX X (q0 + 1) (upd (X (q0 + 1)) (X q0 3).toNatClampNeg v1)) fun X1 => (if okI v1 60 = true then nX (pX X1 (q0 + 2) (upd (X1 (q0 + 2)) v1.toNatClampNeg (vp_nar .boolean (1)))) fun X2 => nX (pX X2 q0 (upd (X2 q0) 3 ((X2 q0 3) + (1)))) fun X3 => some X3 else none) else none)))) else none))
def f_X1_letWait (X : JX) (q0 : Nat) (v1 : Int32) : Option JX := (if v1 < 0 then b_X1_letWait_15 X q0 v1 (0) else (if 60 ≤ v1 then b_X1_letWait_15 X q0 v1 (0) else b_X1_letWait_15 X q0 v1 (1)))
def f_X1_meet (X : JX) (q0 : Nat) (v1 : Int32) : Option JX := (if v1 < 0 then some X else (if 60 ≤ v1 then some X else (if okI v1 60 = true then nX (pX X (q0 + 3) (upd (X (q0 + 3)) v1.toNatClampNeg (vp_nar .boolean (1)))) fun X1 => some X1 else none)))
def lb_X1_startAnew_2 (q0 : Nat) (v1 : Int32) (rec2 : JX → Int32 → Option JX) (X : JX) (v2 : Int32) : Option JX := (if 60 ≤ v2 then nX (pX X q0 (upd (X q0) 3 (0))) fun X1 => (if okB (1) = true then nX (pX X1 q0 (upd (X1 q0) 4 (1))) fun X2 => (f_X1_letWait X2 q0 v1).bind fun X3 => some X3 else none) else (if okI v2 60 = true then nX (pX X (q0 + 2) (upd (X (q0 + 2)) v2.toNatClampNeg (vp_nar .boolean (0)))) fun X4 => (if okI v2 60 = true then nX (pX X4 (q0 + 3) (upd (X4 (q0 + 3)) v2.toNatClampNeg (vp_nar .boolean (0)))) fun X5 => nV (v2 + 1) fun t6 => rec2 X5 t6 else none) else none))
def l_X1_startAnew_2 (q0 : Nat) (v1 : Int32) : JX → Int32 → Option JX := loop2 (lb_X1_startAnew_2 q0 v1) 1000
def f_X1_startAnew (X : JX) (q0 : Nat) (v1 : Int32) : Option JX := l_X1_startAnew_2 q0 v1 X (0)
def b_X1_takeFirst_53 (X : JX) (q0 : Nat) (v1 : Int32) : Option (Int32 × JX) := nX (pX X q0 (upd (X q0) 3 ((X q0 3) - (1)))) fun X4 => (if v1 < 0 then some (v1, X4) else (if 60 ≤ v1 then some (v1, X4) else (if okI v1 60 = true then nX (pX X4 (q0 + 2) (upd (X4 (q0 + 2)) v1.toNatClampNeg (vp_nar .boolean (0)))) fun X5 => some (v1, X5) else none)))
def lb_X1_takeFirst_19 (q0 : Nat) (v1 : Int32) (rec19 : JX → Int32 → Option (Int32 × JX)) (X : JX) (v2 : Int32) : Option (Int32 × JX) := (if (X q0 3) ≤ v2 then b_X1_takeFirst_53 X q0 v1 else (if 60 ≤ v2 then b_X1_takeFirst_53 X q0 v1 else (if okI v2 60 = true then (if okI (v2 - (1)) 60 = true then nX (pX X (q0 + 1) (upd (X (q0 + 1)) (v2 - (1)).toNatClampNeg (X (q0 + 1) v2.toNatClampNeg))) fun X2 => nV (v2 + 1) fun t3 => rec19 X2 t3 else none) else none)))
def l_X1_takeFirst_19 (q0 : Nat) (v1 : Int32) : JX → Int32 → Option (Int32 × JX) := loop2 (lb_X1_takeFirst_19 q0 v1) 1000
def f_X1_takeFirst (X : JX) (q0 : Nat) : Option (Int32 × JX) := (if 1 ≤ (X q0 3) then (if okI (0 : Int32) 60 = true then nV (X (q0 + 1) (0 : Int32).toNatClampNeg) fun t1 => l_X1_takeFirst_19 q0 t1 X (1) else none) else some (-1, X))
def b_X2_count_22 (rec4 : Int32 → Int32 → Option Int32) (X : JX) (v1 : Int32) (v2 : Int32) : Option Int32 := nV (v2 + 1) fun t2 => rec4 v1 t2
def lb_X2_count_4 (X : JX) (rec4 : Int32 → Int32 → Option Int32) (v1 : Int32) (v2 : Int32) : Option Int32 := (if 60 ≤ v2 then some v1 else (if okI v2 60 = true then (if (X (36) v2.toNatClampNeg) = 0 then b_X2_count_22 rec4 X v1 v2 else nV (v1 + 1) fun t1 => b_X2_count_22 rec4 X t1 v2) else none))
def l_X2_count_4 (X : JX) : Int32 → Int32 → Option Int32 := loop2 (lb_X2_count_4 X) 1000
def f_X2_count (X : JX) : Option Int32 := l_X2_count_4 X (0) (0)
def f_X9_parentOf (X : JX) (v1 : Int32) : Option Int32 := (if v1 < 0 then some (-1) else (if 60 ≤ v1 then some (-1) else (if okI v1 60 = true then some (X (2) v1.toNatClampNeg) else none)))
def b_X8_find_36 (rec2 : Int32 → Option (Option Nat)) (X : JX) (v1 : Int32) (v2 : Int32) : Option (Option Nat) := nV (v2 + 1) fun t2 => rec2 t2
def lb_X8_find_2 (X : JX) (v1 : Int32) (rec2 : Int32 → Option (Option Nat)) (v2 : Int32) : Option (Option Nat) := (if (X (11) 2) ≤ v2 then some none else (if 3 ≤ v2 then some none else (if okI v2 3 = true then nN (X (12) v2.toNatClampNeg).toNatClampNeg fun q1 => if isRt q1 = true then (if ¬ (X q1 3) = v1 then b_X8_find_36 rec2 X v1 v2 else some (some q1)) else none else none)))
def l_X8_find_2 (X : JX) (v1 : Int32) : Int32 → Option (Option Nat) := loop1 (lb_X8_find_2 X v1) 1000
def f_X8_find (X : JX) (v1 : Int32) : Option (Option Nat) := l_X8_find_2 X v1 (0)
def lb_X8_holding_4 (X : JX) (rec4 : Int32 → Int32 → Option (Option Nat)) (v2 : Int32) (v3 : Int32) : Option (Option Nat) := (if 60 ≤ v3 then some none else (if v2 = -1 then some none else (f_X8_find X v2).bind fun o1 => oC o1 ((f_X9_parentOf X v2).bind fun t3 => nV (v3 + 1) fun t4 => rec4 t3 t4) (fun q2 => if isRt q2 = true then some (some q2) else none)))
def l_X8_holding_4 (X : JX) : Int32 → Int32 → Option (Option Nat) := loop2 (lb_X8_holding_4 X) 1000
def f_X8_holding (X : JX) (v1 : Int32) : Option (Option Nat) := l_X8_holding_4 X v1 (0)
def f_X8_above (X : JX) (v1 : Int32) : Option (Option Nat) := (f_X9_parentOf X v1).bind fun t1 => (f_X8_holding X t1).bind fun o2 => oC o2 (some none) (fun q3 => if isRt q3 = true then some (some q3) else none)
def f_X9_isFile (X : JX) (v1 : Int32) : Option Int32 := (if v1 < 0 then some (0) else (if 60 ≤ v1 then some (0) else (if okI v1 60 = true then (if (X (5) v1.toNatClampNeg) = 0 then some (0) else (if okI v1 60 = true then (if ¬ (X (4) v1.toNatClampNeg) = 0 then some (0) else some (1)) else none)) else none)))
def f_X2_has (X : JX) (v1 : Int32) : Option Int32 := (if v1 < 0 then some (0) else (if 60 ≤ v1 then some (0) else (if okI v1 60 = true then (if (X (36) v1.toNatClampNeg) = 0 then some (0) else some (1)) else none)))
def f_X9_nameOf (X : JX) (v1 : Int32) : Option Int32 := (if v1 < 0 then (if vp_nar .char (32) = (32) then some (32) else none) else (if 60 ≤ v1 then (if vp_nar .char (32) = (32) then some (32) else none) else (if okI v1 60 = true then (if vp_nar .char (X (3) v1.toNatClampNeg) = (X (3) v1.toNatClampNeg) then some (X (3) v1.toNatClampNeg) else none) else none)))
def f_X9_editionOf (X : JX) (v1 : Int32) : Option Int32 := (if v1 < 0 then some (0) else (if 60 ≤ v1 then some (0) else (if okI v1 60 = true then some (X (8) v1.toNatClampNeg) else none)))
def f_X2_isBehind (X : JX) (v1 : Int32) : Option Int32 := (f_X2_has X v1).bind fun t1 => (if ¬ t1 = 0 then (if okI v1 60 = true then (f_X9_parentOf X v1).bind fun t2 => (if ¬ (X (37) v1.toNatClampNeg) = t2 then some (1) else (if okI v1 60 = true then (f_X9_nameOf X v1).bind fun t3 => (if (X (38) v1.toNatClampNeg) = t3 then (f_X9_isFile X v1).bind fun t4 => (if t4 = 0 then some (0) else (if okI v1 60 = true then (f_X9_editionOf X v1).bind fun t5 => (if (X (39) v1.toNatClampNeg) = t5 then some (0) else some (1)) else none)) else some (1)) else none)) else none) else some (1))
def b_X2_countStale_65 (rec4 : Int32 → Int32 → Option Int32) (X : JX) (v1 : Int32) (v2 : Int32) : Option Int32 := nV (v2 + 1) fun t5 => rec4 v1 t5
def b_X2_countStale_62 (rec4 : Int32 → Int32 → Option Int32) (X : JX) (v1 : Int32) (v2 : Int32) : Option Int32 := nV (v1 + 1) fun t6 => b_X2_countStale_65 rec4 X t6 v2
def b_X2_countStale_26 (rec4 : Int32 → Int32 → Option Int32) (X : JX) (v1 : Int32) (v2 : Int32) (s0 : Int32) : Option Int32 := (if s0 = 0 then (if okI v2 60 = true then (if (X (36) v2.toNatClampNeg) = 0 then b_X2_countStale_65 rec4 X v1 v2 else b_X2_countStale_62 rec4 X v1 v2) else none) else (f_X9_isFile X v2).bind fun t3 => (if t3 = 0 then b_X2_countStale_65 rec4 X v1 v2 else (f_X2_isBehind X v2).bind fun t4 => (if t4 = 0 then b_X2_countStale_65 rec4 X v1 v2 else b_X2_countStale_62 rec4 X v1 v2)))
def lb_X2_countStale_4 (X : JX) (rec4 : Int32 → Int32 → Option Int32) (v1 : Int32) (v2 : Int32) : Option Int32 := (if 60 ≤ v2 then some v1 else (f_X8_above X v2).bind fun o1 => oC o1 (b_X2_countStale_26 rec4 X v1 v2 (0)) (fun q2 => if isRt q2 = true then b_X2_countStale_26 rec4 X v1 v2 (1) else none))
def l_X2_countStale_4 (X : JX) : Int32 → Int32 → Option Int32 := loop2 (lb_X2_countStale_4 X) 1000
def f_X2_countStale (X : JX) : Option Int32 := l_X2_countStale_4 X (0) (0)
def f_X2_editionOf (X : JX) (v1 : Int32) : Option Int32 := (f_X2_has X v1).bind fun t1 => (if t1 = 0 then some (-1) else (if okI v1 60 = true then some (X (39) v1.toNatClampNeg) else none))
def lb_X2_endWork_2 (rec2 : JX → Int32 → Option JX) (X : JX) (v1 : Int32) : Option JX := (if 60 ≤ v1 then some X else (if okI v1 60 = true then nX (pX X (42) (upd (X (42)) v1.toNatClampNeg (vp_nar .boolean (0)))) fun X1 => nV (v1 + 1) fun t2 => rec2 X1 t2 else none))
def l_X2_endWork_2 : JX → Int32 → Option JX := loop2 (lb_X2_endWork_2 ) 1000
def f_X2_endWork (X : JX) : Option JX := l_X2_endWork_2 X (0)
def f_X2_hasGotEdition (X : JX) (v1 : Int32) : Option Int32 := (if v1 < 0 then some (0) else (if 60 ≤ v1 then some (0) else (if okI v1 60 = true then (if (X (42) v1.toNatClampNeg) = 0 then some (0) else some (1)) else none)))
def lb_X2_isBelow_5 (X : JX) (v2 : Int32) (rec5 : Int32 → Int32 → Option Int32) (v3 : Int32) (v4 : Int32) : Option Int32 := (if 60 ≤ v4 then some (0) else (f_X2_has X v3).bind fun t1 => (if t1 = 0 then some (0) else (if okI v3 60 = true then nV (X (37) v3.toNatClampNeg) fun t2 => (if ¬ t2 = v2 then (f_X8_find X t2).bind fun o3 => oC o3 (nV (v4 + 1) fun t5 => rec5 t2 t5) (fun q4 => if isRt q4 = true then some (0) else none) else some (1)) else none)))
def l_X2_isBelow_5 (X : JX) (v2 : Int32) : Int32 → Int32 → Option Int32 := loop2 (lb_X2_isBelow_5 X v2) 1000
def f_X2_isBelow (X : JX) (v1 : Int32) (v2 : Int32) : Option Int32 := l_X2_isBelow_5 X v2 v1 (0)
def f_X2_keepEdition (X : JX) (v1 : Int32) (v2 : Int32) : Option JX := (if v1 < 0 then some X else (if 60 ≤ v1 then some X else (f_X9_editionOf X v1).bind fun t1 => (if okI v1 60 = true then nX (pX X (39) (upd (X (39)) v1.toNatClampNeg t1)) fun X2 => (if okI v1 60 = true then nX (pX X2 (40) (upd (X2 (40)) v1.toNatClampNeg v2)) fun X3 => (if okI v1 60 = true then nX (pX X3 (42) (upd (X3 (42)) v1.toNatClampNeg (vp_nar .boolean (1)))) fun X4 => some X4 else none) else none) else none)))
def f_X2_keepPlace (X : JX) (v1 : Int32) : Option JX := (if v1 < 0 then some X else (if 60 ≤ v1 then some X else (if okI v1 60 = true then nX (pX X (36) (upd (X (36)) v1.toNatClampNeg (vp_nar .boolean (1)))) fun X1 => (f_X9_parentOf X1 v1).bind fun t2 => (if okI v1 60 = true then nX (pX X1 (37) (upd (X1 (37)) v1.toNatClampNeg t2)) fun X3 => (f_X9_nameOf X3 v1).bind fun t4 => (if okI v1 60 = true then nX (pX X3 (38) (upd (X3 (38)) v1.toNatClampNeg (vp_nar .char t4))) fun X5 => some X5 else none) else none) else none)))
def f_X2_lengthOf (X : JX) (v1 : Int32) : Option Int32 := (f_X2_has X v1).bind fun t1 => (if t1 = 0 then some (0) else (if okI v1 60 = true then some (X (40) v1.toNatClampNeg) else none))
def b_X2_takeAway_91 (rec62 : JX → Int32 → Option JX) (X : JX) (v3 : Int32) : Option JX := nV (v3 + 1) fun t8 => rec62 X t8
def lb_X2_takeAway_62 (rec62 : JX → Int32 → Option JX) (X : JX) (v3 : Int32) : Option JX := (if 60 ≤ v3 then some X else (if okI v3 60 = true then (if (X (43) v3.toNatClampNeg) = 0 then b_X2_takeAway_91 rec62 X v3 else (if okI v3 60 = true then nX (pX X (36) (upd (X (36)) v3.toNatClampNeg (vp_nar .boolean (0)))) fun X4 => (if okI v3 60 = true then nX (pX X4 (42) (upd (X4 (42)) v3.toNatClampNeg (vp_nar .boolean (0)))) fun X5 => b_X2_takeAway_91 rec62 X5 v3 else none) else none)) else none))
def l_X2_takeAway_62 : JX → Int32 → Option JX := loop2 (lb_X2_takeAway_62 ) 1000
def b_X2_takeAway_53 (rec19 : JX → Int32 → Option JX) (X : JX) (v1 : Int32) (v2 : Int32) (v3 : Int32) (s0 : Int32) (s1 : Int32) : Option JX := (if okI s1 60 = true then nX (pX X (43) (upd (X (43)) s1.toNatClampNeg (vp_nar .boolean s0))) fun X6 => nV (v3 + 1) fun t7 => rec19 X6 t7 else none)
def lb_X2_takeAway_19 (v1 : Int32) (v2 : Int32) (rec19 : JX → Int32 → Option JX) (X : JX) (v3 : Int32) : Option JX := (if 60 ≤ v3 then l_X2_takeAway_62 X (0) else (if v3 = v1 then b_X2_takeAway_53 rec19 X v1 v2 v3 (1) v3 else (if ¬ v2 = 0 then b_X2_takeAway_53 rec19 X v1 v2 v3 (0) v3 else (f_X2_isBelow X v3 v1).bind fun t3 => (if t3 = 0 then b_X2_takeAway_53 rec19 X v1 v2 v3 (0) v3 else b_X2_takeAway_53 rec19 X v1 v2 v3 (1) v3))))
def l_X2_takeAway_19 (v1 : Int32) (v2 : Int32) : JX → Int32 → Option JX := loop2 (lb_X2_takeAway_19 v1 v2) 1000
def b_X2_takeAway_16 (X : JX) (v1 : Int32) (s0 : Int32) : Option JX := l_X2_takeAway_19 v1 s0 X (0)
def f_X2_takeAway (X : JX) (v1 : Int32) : Option JX := (f_X8_find X v1).bind fun o1 => oC o1 (b_X2_takeAway_16 X v1 (0)) (fun q2 => if isRt q2 = true then b_X2_takeAway_16 X v1 (1) else none)
def f_X2_wordsOf (X : JX) (v1 : Int32) : Option Nat := (if v1 < 0 then (if okI (0 : Int32) 60 = true then nN (116 + (0 : Int32).toNatClampNeg) fun q1 => if isI20 q1 = true then some q1 else none else none) else (if 60 ≤ v1 then (if okI (0 : Int32) 60 = true then nN (116 + (0 : Int32).toNatClampNeg) fun q2 => if isI20 q2 = true then some q2 else none else none) else (if okI v1 60 = true then nN (116 + v1.toNatClampNeg) fun q3 => if isI20 q3 = true then some q3 else none else none)))
def b_X3_addSegment_75 (rec38 : JX → Int32 → Option JX) (X : JX) (v2 : Int32) : Option JX := nV (v2 + 1) fun t7 => rec38 X t7
def lb_X3_addSegment_38 (rec38 : JX → Int32 → Option JX) (X : JX) (v2 : Int32) : Option JX := (if 60 ≤ v2 then nX (pX X (49) (upd (X (49)) 3 ((X (49) 3) + (1)))) fun X3 => some X3 else (f_X2_hasGotEdition X v2).bind fun t4 => (if t4 = 0 then b_X3_addSegment_75 rec38 X v2 else (if okI v2 60 = true then nX (pX X (50) (upd (X (50)) v2.toNatClampNeg (X (49) 3))) fun X5 => (if okI (X5 (49) 3) 4 = true then (if okI (X5 (49) 3) 4 = true then nX (pX X5 (51) (upd (X5 (51)) (X5 (49) 3).toNatClampNeg ((X5 (51) (X5 (49) 3).toNatClampNeg) + (1)))) fun X6 => b_X3_addSegment_75 rec38 X6 v2 else none) else none) else none)))
def l_X3_addSegment_38 : JX → Int32 → Option JX := loop2 (lb_X3_addSegment_38 ) 1000
def f_X3_addSegment (X : JX) : Option JX := (if (X (49) 3) < 0 then some X else (if (X (49) 3) ≤ 3 then (if okI (X (49) 3) 4 = true then nX (pX X (51) (upd (X (51)) (X (49) 3).toNatClampNeg (0))) fun X1 => (if okI (X1 (49) 3) 4 = true then nX (pX X1 (52) (upd (X1 (52)) (X1 (49) 3).toNatClampNeg (0))) fun X2 => l_X3_addSegment_38 X2 (0) else none) else none) else some X))
def b_X3_bury_36 (X : JX) (v1 : Int32) : Option JX := (if okI v1 60 = true then nX (pX X (50) (upd (X (50)) v1.toNatClampNeg (-1))) fun X4 => some X4 else none)
def f_X3_bury (X : JX) (v1 : Int32) : Option JX := (if okI v1 60 = true then nV (X (50) v1.toNatClampNeg) fun t1 => (if t1 < 0 then b_X3_bury_36 X v1 else (if 3 < t1 then b_X3_bury_36 X v1 else (if okI t1 4 = true then (if okI t1 4 = true then nX (pX X (51) (upd (X (51)) t1.toNatClampNeg ((X (51) t1.toNatClampNeg) - (1)))) fun X2 => (if okI t1 4 = true then (if okI t1 4 = true then nX (pX X2 (52) (upd (X2 (52)) t1.toNatClampNeg ((X2 (52) t1.toNatClampNeg) + (1)))) fun X3 => b_X3_bury_36 X3 v1 else none) else none) else none) else none))) else none)
def b_X3_close_79 (rec53 : JX → Int32 → Option JX) (X : JX) (v1 : Int32) (v2 : Int32) : Option JX := nV (v2 + 1) fun t6 => rec53 X t6
def lb_X3_close_53 (v1 : Int32) (rec53 : JX → Int32 → Option JX) (X : JX) (v2 : Int32) : Option JX := (if 60 ≤ v2 then nX (pX X (49) (upd (X (49)) 3 ((X (49) 3) - (1)))) fun X4 => some X4 else (if okI v2 60 = true then (if (X (50) v2.toNatClampNeg) ≤ v1 then b_X3_close_79 rec53 X v1 v2 else (if okI v2 60 = true then (if okI v2 60 = true then nX (pX X (50) (upd (X (50)) v2.toNatClampNeg ((X (50) v2.toNatClampNeg) - (1)))) fun X5 => b_X3_close_79 rec53 X5 v1 v2 else none) else none)) else none))
def l_X3_close_53 (v1 : Int32) : JX → Int32 → Option JX := loop2 (lb_X3_close_53 v1) 1000
def b_X3_close_51 (X : JX) (v1 : Int32) : Option JX := l_X3_close_53 v1 X (0)
def lb_X3_close_2 (v1 : Int32) (rec2 : JX → Int32 → Option JX) (X : JX) (v2 : Int32) : Option JX := (if (X (49) 3) ≤ (v2 + (1)) then b_X3_close_51 X v1 else (if 3 ≤ v2 then b_X3_close_51 X v1 else (if okI (v2 + (1)) 4 = true then (if okI v2 4 = true then nX (pX X (51) (upd (X (51)) v2.toNatClampNeg (X (51) (v2 + (1)).toNatClampNeg))) fun X1 => (if okI (v2 + (1)) 4 = true then (if okI v2 4 = true then nX (pX X1 (52) (upd (X1 (52)) v2.toNatClampNeg (X1 (52) (v2 + (1)).toNatClampNeg))) fun X2 => nV (v2 + 1) fun t3 => rec2 X2 t3 else none) else none) else none) else none)))
def l_X3_close_2 (v1 : Int32) : JX → Int32 → Option JX := loop2 (lb_X3_close_2 v1) 1000
def f_X3_close (X : JX) (v1 : Int32) : Option JX := l_X3_close_2 v1 X v1
def f_X3_count (X : JX) : Option Int32 := some (X (49) 3)
def lb_X3_countBuried_4 (X : JX) (rec4 : Int32 → Int32 → Option Int32) (v1 : Int32) (v2 : Int32) : Option Int32 := (if (X (49) 3) ≤ v2 then some v1 else (if 3 < v2 then some v1 else (if okI v2 4 = true then nV (v1 + (X (52) v2.toNatClampNeg)) fun t1 => nV (v2 + 1) fun t2 => rec4 t1 t2 else none)))
def l_X3_countBuried_4 (X : JX) : Int32 → Int32 → Option Int32 := loop2 (lb_X3_countBuried_4 X) 1000
def f_X3_countBuried (X : JX) : Option Int32 := l_X3_countBuried_4 X (0) (0)
def b_X3_smallestPair_70 (rec6 : Int32 → Int32 → Int32 → Option Int32) (X : JX) (v1 : Int32) (v2 : Int32) (v3 : Int32) : Option Int32 := nV (v3 + 1) fun t3 => rec6 v1 v2 t3
def b_X3_smallestPair_65 (rec6 : Int32 → Int32 → Int32 → Option Int32) (X : JX) (v3 : Int32) (v4 : Int32) : Option Int32 := b_X3_smallestPair_70 rec6 X v3 v4 v3
def lb_X3_smallestPair_6 (X : JX) (rec6 : Int32 → Int32 → Int32 → Option Int32) (v1 : Int32) (v2 : Int32) (v3 : Int32) : Option Int32 := (if (X (49) 3) ≤ (v3 + (1)) then some v1 else (if 3 ≤ v3 then some v1 else (if okI v3 4 = true then (if okI v3 4 = true then (if okI (v3 + (1)) 4 = true then (if okI (v3 + (1)) 4 = true then nV ((((X (51) v3.toNatClampNeg) + (X (52) v3.toNatClampNeg)) + (X (51) (v3 + (1)).toNatClampNeg)) + (X (52) (v3 + (1)).toNatClampNeg)) fun t2 => (if v1 = -1 then b_X3_smallestPair_65 rec6 X v3 t2 else (if v2 ≤ t2 then b_X3_smallestPair_70 rec6 X v1 v2 v3 else b_X3_smallestPair_65 rec6 X v3 t2)) else none) else none) else none) else none)))
def l_X3_smallestPair_6 (X : JX) : Int32 → Int32 → Int32 → Option Int32 := loop3 (lb_X3_smallestPair_6 X) 1000
def f_X3_smallestPair (X : JX) : Option Int32 := nV (-1) fun t1 => l_X3_smallestPair_6 X t1 (0) (0)
def b_X3_joinWithNext_71 (rec46 : JX → Int32 → Option JX) (X : JX) (v1 : Int32) (v2 : Int32) : Option JX := nV (v2 + 1) fun t5 => rec46 X t5
def lb_X3_joinWithNext_46 (v1 : Int32) (rec46 : JX → Int32 → Option JX) (X : JX) (v2 : Int32) : Option JX := (if 60 ≤ v2 then (f_X3_close X (v1 + (1))).bind fun X3 => some X3 else (if okI v2 60 = true then (if ¬ (X (50) v2.toNatClampNeg) = (v1 + (1)) then b_X3_joinWithNext_71 rec46 X v1 v2 else (if okI v2 60 = true then nX (pX X (50) (upd (X (50)) v2.toNatClampNeg v1)) fun X4 => b_X3_joinWithNext_71 rec46 X4 v1 v2 else none)) else none))
def l_X3_joinWithNext_46 (v1 : Int32) : JX → Int32 → Option JX := loop2 (lb_X3_joinWithNext_46 v1) 1000
def f_X3_joinWithNext (X : JX) (v1 : Int32) : Option JX := (if v1 < 0 then some X else (if 3 ≤ v1 then some X else (if (v1 + (1)) < (X (49) 3) then (if okI v1 4 = true then (if okI (v1 + (1)) 4 = true then (if okI v1 4 = true then nX (pX X (51) (upd (X (51)) v1.toNatClampNeg ((X (51) v1.toNatClampNeg) + (X (51) (v1 + (1)).toNatClampNeg)))) fun X1 => (if okI v1 4 = true then nX (pX X1 (52) (upd (X1 (52)) v1.toNatClampNeg (0))) fun X2 => l_X3_joinWithNext_46 v1 X2 (0) else none) else none) else none) else none) else some X)))
def lb_X3_endWork_76 (rec76 : JX → Int32 → Option JX) (X : JX) (v2 : Int32) : Option JX := (if 3 ≤ v2 then some X else (if (X (49) 3) ≤ 3 then some X else (f_X3_smallestPair X ).bind fun t7 => (f_X3_joinWithNext X t7).bind fun X8 => nV (v2 + 1) fun t9 => rec76 X8 t9))
def l_X3_endWork_76 : JX → Int32 → Option JX := loop2 (lb_X3_endWork_76 ) 1000
def b_X3_endWork_68 (rec42 : JX → Int32 → Option JX) (X : JX) (v2 : Int32) : Option JX := nV (v2 + (-1)) fun t10 => rec42 X t10
def lb_X3_endWork_42 (rec42 : JX → Int32 → Option JX) (X : JX) (v2 : Int32) : Option JX := (if v2 < 0 then l_X3_endWork_76 X (0) else (if (X (49) 3) ≤ v2 then b_X3_endWork_68 rec42 X v2 else (if okI v2 4 = true then (if ¬ (X (51) v2.toNatClampNeg) = 0 then b_X3_endWork_68 rec42 X v2 else (f_X3_close X v2).bind fun X4 => b_X3_endWork_68 rec42 X4 v2) else none)))
def l_X3_endWork_42 : JX → Int32 → Option JX := loop2 (lb_X3_endWork_42 ) 1000
def b_X3_endWork_29 (rec2 : JX → Int32 → Option JX) (X : JX) (v2 : Int32) : Option JX := nV (v2 + 1) fun t6 => rec2 X t6
def b_X3_endWork_24 (rec2 : JX → Int32 → Option JX) (X : JX) (v2 : Int32) : Option JX := (f_X3_bury X v2).bind fun X5 => b_X3_endWork_29 rec2 X5 v2
def lb_X3_endWork_2 (rec2 : JX → Int32 → Option JX) (X : JX) (v2 : Int32) : Option JX := (if 60 ≤ v2 then (f_X3_addSegment X ).bind fun X1 => l_X3_endWork_42 X1 (3) else (f_X2_hasGotEdition X v2).bind fun t2 => (if ¬ t2 = 0 then b_X3_endWork_24 rec2 X v2 else (f_X2_has X v2).bind fun t3 => (if ¬ t3 = 0 then b_X3_endWork_29 rec2 X v2 else b_X3_endWork_24 rec2 X v2)))
def l_X3_endWork_2 : JX → Int32 → Option JX := loop2 (lb_X3_endWork_2 ) 1000
def f_X3_endWork (X : JX) : Option JX := l_X3_endWork_2 X (0)
def f_X9_isLocked (X : JX) (v1 : Int32) : Option Int32 := (if v1 < 0 then some (0) else (if 60 ≤ v1 then some (0) else (if okI v1 60 = true then (if (X (6) v1.toNatClampNeg) = 0 then some (0) else some (1)) else none)))
def f_X9_lengthOf (X : JX) (v1 : Int32) : Option Int32 := (if v1 < 0 then some (0) else (if 60 ≤ v1 then some (0) else (if okI v1 60 = true then some (X (9) v1.toNatClampNeg) else none)))
def f_X9_textOf (X : JX) (v1 : Int32) : Option Nat := (if v1 < 0 then (if okI (0 : Int32) 60 = true then nN (56 + (0 : Int32).toNatClampNeg) fun q1 => if isI20 q1 = true then some q1 else none else none) else (if 60 ≤ v1 then (if okI (0 : Int32) 60 = true then nN (56 + (0 : Int32).toNatClampNeg) fun q2 => if isI20 q2 = true then some q2 else none else none) else (if okI v1 60 = true then nN (56 + v1.toNatClampNeg) fun q3 => if isI20 q3 = true then some q3 else none else none)))
def b_X6_endOfWhole_65 (rec14 : Int32 → Int32 → Int32 → Option Int32) (X : JX) (q0 : Nat) (v2 : Int32) (v3 : Int32) (v4 : Int32) : Option Int32 := nV (v4 + (-1)) fun t6 => rec14 v2 v3 t6
def b_X6_endOfWhole_55 (rec14 : Int32 → Int32 → Int32 → Option Int32) (X : JX) (q0 : Nat) (v2 : Int32) (v3 : Int32) (v4 : Int32) (v5 : Int32) : Option Int32 := (if ¬ v5 = -2 then b_X6_endOfWhole_65 rec14 X q0 v2 v3 v4 else b_X6_endOfWhole_65 rec14 X q0 v4 v3 v4)
def lb_X6_endOfWhole_14 (X : JX) (q0 : Nat) (rec14 : Int32 → Int32 → Int32 → Option Int32) (v2 : Int32) (v3 : Int32) (v4 : Int32) : Option Int32 := (if v4 < 0 then some v2 else (if okI v4 20 = true then nV (X q0 v4.toNatClampNeg) fun t3 => (if ¬ t3 = -3 then (if ¬ t3 = -2 then b_X6_endOfWhole_55 rec14 X q0 v2 v3 v4 t3 else (if v3 ≤ 0 then b_X6_endOfWhole_55 rec14 X q0 v2 v3 v4 t3 else nV (v3 + (-1)) fun t4 => b_X6_endOfWhole_65 rec14 X q0 v2 t4 v4)) else nV (v3 + 1) fun t5 => b_X6_endOfWhole_65 rec14 X q0 v2 t5 v4) else none))
def l_X6_endOfWhole_14 (X : JX) (q0 : Nat) : Int32 → Int32 → Int32 → Option Int32 := loop3 (lb_X6_endOfWhole_14 X q0) 1000
def f_X6_endOfWhole (X : JX) (q0 : Nat) (v1 : Int32) : Option Int32 := nV (if (20) < v1 then (20) else v1) fun t1 => nV (t1 - (1)) fun t2 => l_X6_endOfWhole_14 X q0 t1 (0) t2
def b_X6_takeWords_103 (rec16 : JX → Int32 → Int32 → Int32 → Option (Int32 × JX)) (X : JX) (q1 : Nat) (q3 : Nat) (v4 : Int32) (v5 : Int32) (v6 : Int32) (v7 : Int32) : Option (Int32 × JX) := nV (v7 + 1) fun t7 => rec16 X v5 v6 t7
def lb_X6_takeWords_16 (q1 : Nat) (q3 : Nat) (v4 : Int32) (rec16 : JX → Int32 → Int32 → Int32 → Option (Int32 × JX)) (X : JX) (v5 : Int32) (v6 : Int32) (v7 : Int32) : Option (Int32 × JX) := (if v4 ≤ v7 then some (v5, X) else (if 20 ≤ v7 then some (v5, X) else (if okI v7 20 = true then nV (X q1 v7.toNatClampNeg) fun t2 => (if ¬ t2 = -2 then (if ¬ t2 = -3 then (if (X (34) 0) < v6 then b_X6_takeWords_103 rec16 X q1 q3 v4 v5 v6 v7 else (if (X (34) 1) ≤ v5 then b_X6_takeWords_103 rec16 X q1 q3 v4 v5 v6 v7 else (if 20 ≤ v5 then b_X6_takeWords_103 rec16 X q1 q3 v4 v5 v6 v7 else (if okI v5 20 = true then nX (pX X q3 (upd (X q3) v5.toNatClampNeg t2)) fun X3 => nV (v5 + 1) fun t4 => b_X6_takeWords_103 rec16 X3 q1 q3 v4 t4 v6 v7 else none)))) else nV (if (0) < (v6 - (1)) then (v6 - (1)) else (0)) fun t5 => b_X6_takeWords_103 rec16 X q1 q3 v4 v5 t5 v7) else nV (v6 + 1) fun t6 => b_X6_takeWords_103 rec16 X q1 q3 v4 v5 t6 v7) else none)))
def l_X6_takeWords_16 (q1 : Nat) (q3 : Nat) (v4 : Int32) : JX → Int32 → Int32 → Int32 → Option (Int32 × JX) := loop4 (lb_X6_takeWords_16 q1 q3 v4) 1000
def f_X6_takeWords (X : JX) (q1 : Nat) (v2 : Int32) (q3 : Nat) : Option (Int32 × JX) := (f_X6_endOfWhole X q1 v2).bind fun t1 => l_X6_takeWords_16 q1 q3 t1 X (0) (0) (0)
def b_X4_lookAtFile_101 (X : JX) (v1 : Int32) (v3 : Int32) : Option (Int32 × JX) := (f_X2_keepPlace X v1).bind fun X11 => (f_X0_takeAway X11 v1).bind fun X12 => some (v3, X12)
def f_X4_lookAtFile (X : JX) (v1 : Int32) (v2 : Int32) : Option (Int32 × JX) := (f_X9_isLocked X v1).bind fun t1 => (if t1 = 0 then (f_X2_editionOf X v1).bind fun t2 => (f_X9_editionOf X v1).bind fun t3 => (if t2 = t3 then b_X4_lookAtFile_101 X v1 (1) else (f_X9_lengthOf X v1).bind fun t4 => nV ((1) + t4) fun t5 => (if t5 ≤ v2 then (f_X9_textOf X v1).bind fun q6 => if isI20 q6 = true then (f_X2_wordsOf X v1).bind fun q7 => if isI20 q7 = true then (f_X6_takeWords X q6 t4 q7).bind fun t8 => (f_X2_keepEdition t8.2 v1 t8.1).bind fun X9 => b_X4_lookAtFile_101 X9 v1 t5 else none else none else some (0, X))) else (f_X0_putOff X v1).bind fun X10 => some (1, X10))
def b_X4_lookAtFolder_37 (rec10 : JX → Int32 → Option JX) (X : JX) (v1 : Int32) (v2 : Int32) : Option JX := nV (v2 + 1) fun t4 => rec10 X t4
def lb_X4_lookAtFolder_10 (v1 : Int32) (rec10 : JX → Int32 → Option JX) (X : JX) (v2 : Int32) : Option JX := (if 60 ≤ v2 then some X else (f_X9_parentOf X v2).bind fun t2 => (if ¬ t2 = v1 then b_X4_lookAtFolder_37 rec10 X v1 v2 else (f_X0_add X v2 (1)).bind fun X3 => b_X4_lookAtFolder_37 rec10 X3 v1 v2))
def l_X4_lookAtFolder_10 (v1 : Int32) : JX → Int32 → Option JX := loop2 (lb_X4_lookAtFolder_10 v1) 1000
def f_X4_lookAtFolder (X : JX) (v1 : Int32) : Option JX := (f_X2_keepPlace X v1).bind fun X1 => l_X4_lookAtFolder_10 v1 X1 (0)
def b_X4_act_63 (X : JX) (v1 : Int32) (v3 : Int32) (v4 : Int32) : Option (Int32 × JX) := (f_X0_takeAway X v1).bind fun X6 => (if ¬ v4 = 0 then (if v3 = 0 then (f_X0_add X6 v1 (1)).bind fun X7 => some (1, X7) else (f_X4_lookAtFolder X6 v1).bind fun X8 => some (1, X8)) else (f_X2_takeAway X6 v1).bind fun X9 => some (1, X9))
def b_X4_act_34 (X : JX) (v1 : Int32) (v2 : Int32) (v3 : Int32) (s0 : Int32) : Option (Int32 × JX) := (if v3 = 0 then b_X4_act_63 X v1 v3 s0 else (if s0 = 0 then b_X4_act_63 X v1 v3 s0 else (f_X9_isFile X v1).bind fun t4 => (if t4 = 0 then b_X4_act_63 X v1 v3 s0 else (f_X4_lookAtFile X v1 v2).bind fun t5 => some (t5.1, t5.2))))
def b_X4_act_17 (X : JX) (v1 : Int32) (v2 : Int32) (s0 : Int32) : Option (Int32 × JX) := (f_X8_above X v1).bind fun o2 => oC o2 (b_X4_act_34 X v1 v2 s0 (0)) (fun q3 => if isRt q3 = true then b_X4_act_34 X v1 v2 s0 (1) else none)
def f_X4_act (X : JX) (v1 : Int32) (v2 : Int32) : Option (Int32 × JX) := (f_X0_kindOf X v1).bind fun t1 => (if ¬ t1 = 1 then b_X4_act_17 X v1 v2 (0) else b_X4_act_17 X v1 v2 (1))
def f_X4_countActs (X : JX) : Option Int32 := (f_X0_count X ).bind fun t1 => some t1
def f_X4_countDead (X : JX) : Option Int32 := (f_X3_countBuried X ).bind fun t1 => some t1
def f_X4_countSegments (X : JX) : Option Int32 := (f_X3_count X ).bind fun t1 => some t1
def lb_X9_isBelow_9 (X : JX) (v2 : Int32) (rec9 : Int32 → Int32 → Option Int32) (v3 : Int32) (v4 : Int32) : Option Int32 := (if 60 ≤ v4 then some (0) else (if v3 = -1 then some (0) else (if ¬ v3 = v2 then (f_X9_parentOf X v3).bind fun t2 => nV (v4 + 1) fun t3 => rec9 t2 t3 else some (1))))
def l_X9_isBelow_9 (X : JX) (v2 : Int32) : Int32 → Int32 → Option Int32 := loop2 (lb_X9_isBelow_9 X v2) 1000
def f_X9_isBelow (X : JX) (v1 : Int32) (v2 : Int32) : Option Int32 := (f_X9_parentOf X v1).bind fun t1 => l_X9_isBelow_9 X v2 t1 (0)
def f_X9_isFolder (X : JX) (v1 : Int32) : Option Int32 := (if v1 < 0 then some (0) else (if 60 ≤ v1 then some (0) else (if okI v1 60 = true then (if (X (5) v1.toNatClampNeg) = 0 then some (0) else (if okI v1 60 = true then (if (X (4) v1.toNatClampNeg) = 0 then some (0) else some (1)) else none)) else none)))
def b_X4_meetAllIn_66 (rec2 : JX → Int32 → Option JX) (X : JX) (v1 : Int32) (q2 : Nat) (v3 : Int32) : Option JX := nV (v3 + 1) fun t5 => rec2 X t5
def b_X4_meetAllIn_50 (rec2 : JX → Int32 → Option JX) (X : JX) (v1 : Int32) (q2 : Nat) (v3 : Int32) : Option JX := (f_X9_isFolder X v3).bind fun t6 => (if t6 = 0 then b_X4_meetAllIn_66 rec2 X v1 q2 v3 else (f_X1_letWait X q2 v3).bind fun X7 => b_X4_meetAllIn_66 rec2 X7 v1 q2 v3)
def lb_X4_meetAllIn_2 (v1 : Int32) (q2 : Nat) (rec2 : JX → Int32 → Option JX) (X : JX) (v3 : Int32) : Option JX := (if 60 ≤ v3 then some X else (if v1 = -1 then b_X4_meetAllIn_66 rec2 X v1 q2 v3 else (f_X9_parentOf X v3).bind fun t1 => (if ¬ t1 = v1 then b_X4_meetAllIn_66 rec2 X v1 q2 v3 else (f_X1_meet X q2 v3).bind fun X2 => (f_X2_isBehind X2 v3).bind fun t3 => (if t3 = 0 then b_X4_meetAllIn_50 rec2 X2 v1 q2 v3 else (f_X0_add X2 v3 (1)).bind fun X4 => b_X4_meetAllIn_50 rec2 X4 v1 q2 v3))))
def l_X4_meetAllIn_2 (v1 : Int32) (q2 : Nat) : JX → Int32 → Option JX := loop2 (lb_X4_meetAllIn_2 v1 q2) 1000
def f_X4_meetAllIn (X : JX) (v1 : Int32) (q2 : Nat) : Option JX := l_X4_meetAllIn_2 v1 q2 X (0)
def b_X4_lookAtUnmet_36 (rec2 : JX → Int32 → Option JX) (X : JX) (q1 : Nat) (v2 : Int32) : Option JX := nV (v2 + 1) fun t4 => rec2 X t4
def lb_X4_lookAtUnmet_2 (q1 : Nat) (rec2 : JX → Int32 → Option JX) (X : JX) (v2 : Int32) : Option JX := (if 60 ≤ v2 then some X else (f_X2_has X v2).bind fun t1 => (if t1 = 0 then b_X4_lookAtUnmet_36 rec2 X q1 v2 else (f_X1_hasMet X q1 v2).bind fun t2 => (if ¬ t2 = 0 then b_X4_lookAtUnmet_36 rec2 X q1 v2 else (f_X0_add X v2 (1)).bind fun X3 => b_X4_lookAtUnmet_36 rec2 X3 q1 v2)))
def l_X4_lookAtUnmet_2 (q1 : Nat) : JX → Int32 → Option JX := loop2 (lb_X4_lookAtUnmet_2 q1) 1000
def f_X4_lookAtUnmet (X : JX) (q1 : Nat) : Option JX := l_X4_lookAtUnmet_2 q1 X (0)
def b_X4_crawlOn_39 (X : JX) (q2 : Nat) : Option JX := (if ¬ (X q2 3) = 0 then some X else (if okB (0) = true then nX (pX X q2 (upd (X q2) 4 (0))) fun X4 => (f_X4_lookAtUnmet X4 q2).bind fun X5 => some X5 else none))
def b_X4_crawlOn_33 (X : JX) (q2 : Nat) (v3 : Int32) : Option JX := (f_X4_meetAllIn X v3 q2).bind fun X3 => b_X4_crawlOn_39 X3 q2
def f_X4_crawlOn (X : JX) (q1 : Nat) : Option JX := (f_X1_takeFirst X (q1 + 3)).bind fun t1 => (if t1.1 = (t1.2 q1 3) then b_X4_crawlOn_33 t1.2 (q1 + 3) t1.1 else (f_X9_isBelow t1.2 t1.1 (t1.2 q1 3)).bind fun t2 => (if t2 = 0 then b_X4_crawlOn_39 t1.2 (q1 + 3) else b_X4_crawlOn_33 t1.2 (q1 + 3) t1.1))
def f_X7_hasNotices (X : JX) (q0 : Nat) : Option Int32 := (if (X q0 4) ≤ 0 then some (0) else some (1))
def b_X8_firstNoisy_42 (rec2 : Int32 → Option (Option Nat)) (X : JX) (v1 : Int32) : Option (Option Nat) := nV (v1 + 1) fun t3 => rec2 t3
def lb_X8_firstNoisy_2 (X : JX) (rec2 : Int32 → Option (Option Nat)) (v1 : Int32) : Option (Option Nat) := (if (X (11) 2) ≤ v1 then some none else (if 3 ≤ v1 then some none else (if okI v1 3 = true then nN (X (12) v1.toNatClampNeg).toNatClampNeg fun q1 => if isRt q1 = true then (if ¬ (X q1 5) = 0 then some (some q1) else (f_X7_hasNotices X q1).bind fun t2 => (if t2 = 0 then b_X8_firstNoisy_42 rec2 X v1 else some (some q1))) else none else none)))
def l_X8_firstNoisy_2 (X : JX) : Int32 → Option (Option Nat) := loop1 (lb_X8_firstNoisy_2 X) 1000
def f_X8_firstNoisy (X : JX) : Option (Option Nat) := l_X8_firstNoisy_2 X (0)
def f_X7_beginCrawl (X : JX) (q0 : Nat) : Option JX := (f_X1_startAnew X (q0 + 3) (X q0 3)).bind fun X1 => some X1
def b_X7_takeFirst_50 (X : JX) (q0 : Nat) : Option JX := nX (pX X q0 (upd (X q0) 4 (if (0) < ((X q0 4) - (1)) then ((X q0 4) - (1)) else (0)))) fun X4 => some X4
def lb_X7_takeFirst_2 (q0 : Nat) (rec2 : JX → Int32 → Option JX) (X : JX) (v1 : Int32) : Option JX := (if (X q0 4) ≤ v1 then b_X7_takeFirst_50 X q0 else (if 8 ≤ v1 then b_X7_takeFirst_50 X q0 else (if okI v1 8 = true then (if okI (v1 - (1)) 8 = true then nX (pX X (q0 + 1) (upd (X (q0 + 1)) (v1 - (1)).toNatClampNeg (X (q0 + 1) v1.toNatClampNeg))) fun X1 => (if okI v1 8 = true then (if okI (v1 - (1)) 8 = true then nX (pX X1 (q0 + 2) (upd (X1 (q0 + 2)) (v1 - (1)).toNatClampNeg (X1 (q0 + 2) v1.toNatClampNeg))) fun X2 => nV (v1 + 1) fun t3 => rec2 X2 t3 else none) else none) else none) else none)))
def l_X7_takeFirst_2 (q0 : Nat) : JX → Int32 → Option JX := loop2 (lb_X7_takeFirst_2 q0) 1000
def f_X7_takeFirst (X : JX) (q0 : Nat) : Option JX := l_X7_takeFirst_2 q0 X (1)
def b_X4_hear_42 (X : JX) (q1 : Nat) (s0 : Int32) (s1 : Int32) : Option JX := (f_X0_add X s1 s0).bind fun X3 => (f_X7_takeFirst X3 q1).bind fun X4 => some X4
def f_X4_hear (X : JX) (q1 : Nat) : Option JX := (if (X q1 5) = 0 then (if okI (0 : Int32) 8 = true then (if okI (0 : Int32) 8 = true then (if ¬ (X (q1 + 1) (0 : Int32).toNatClampNeg) = 3 then b_X4_hear_42 X q1 (1) (X (q1 + 2) (0 : Int32).toNatClampNeg) else b_X4_hear_42 X q1 (2) (X (q1 + 2) (0 : Int32).toNatClampNeg)) else none) else none) else (if okB (0) = true then nX (pX X q1 (upd (X q1) 5 (0))) fun X1 => (f_X7_beginCrawl X1 q1).bind fun X2 => some X2 else none))
def b_X8_firstCrawled_38 (rec2 : Int32 → Option (Option Nat)) (X : JX) (v1 : Int32) : Option (Option Nat) := nV (v1 + 1) fun t2 => rec2 t2
def lb_X8_firstCrawled_2 (X : JX) (rec2 : Int32 → Option (Option Nat)) (v1 : Int32) : Option (Option Nat) := (if (X (11) 2) ≤ v1 then some none else (if 3 ≤ v1 then some none else (if okI v1 3 = true then nN (X (12) v1.toNatClampNeg).toNatClampNeg fun q1 => if isRt q1 = true then (if (X (q1 + 3) 4) = 0 then b_X8_firstCrawled_38 rec2 X v1 else some (some q1)) else none else none)))
def l_X8_firstCrawled_2 (X : JX) : Int32 → Option (Option Nat) := loop1 (lb_X8_firstCrawled_2 X) 1000
def f_X8_firstCrawled (X : JX) : Option (Option Nat) := l_X8_firstCrawled_2 X (0)
def f_X4_doNext (X : JX) (v1 : Int32) : Option (Int32 × JX) := (f_X8_firstNoisy X ).bind fun o1 => oC o1 ((f_X0_firstReady X ).bind fun t3 => (if t3 = -1 then (f_X8_firstCrawled X ).bind fun o4 => oC o4 (some (0, X)) (fun q5 => if isRt q5 = true then (f_X4_crawlOn X q5).bind fun X6 => some (1, X6) else none) else (f_X4_act X t3 v1).bind fun t7 => some (t7.1, t7.2))) (fun q2 => if isRt q2 = true then (f_X4_hear X q2).bind fun X8 => some (1, X8) else none)
def b_X4_doSteps_42 (X : JX) (v2 : Int32) : Option (Int32 × JX) := (f_X0_endWork X ).bind fun X4 => (f_X3_endWork X4 ).bind fun X5 => (f_X2_endWork X5 ).bind fun X6 => some (v2, X6)
def lb_X4_doSteps_4 (v1 : Int32) (rec4 : JX → Int32 → Int32 → Option (Int32 × JX)) (X : JX) (v2 : Int32) (v3 : Int32) : Option (Int32 × JX) := (if v1 ≤ v3 then b_X4_doSteps_42 X v2 else (if v1 ≤ v2 then b_X4_doSteps_42 X v2 else (f_X4_doNext X (v1 - v2)).bind fun t1 => (if ¬ t1.1 = 0 then nV (v2 + t1.1) fun t2 => nV (v3 + 1) fun t3 => rec4 t1.2 t2 t3 else b_X4_doSteps_42 t1.2 v2)))
def l_X4_doSteps_4 (v1 : Int32) : JX → Int32 → Int32 → Option (Int32 × JX) := loop3 (lb_X4_doSteps_4 v1) 1000
def f_X4_doSteps (X : JX) (v1 : Int32) : Option (Int32 × JX) := l_X4_doSteps_4 v1 X (0) (0)
def b_X4_lookAtAllEntries_28 (rec2 : JX → Int32 → Option JX) (X : JX) (v1 : Int32) : Option JX := nV (v1 + 1) fun t3 => rec2 X t3
def lb_X4_lookAtAllEntries_2 (rec2 : JX → Int32 → Option JX) (X : JX) (v1 : Int32) : Option JX := (if 60 ≤ v1 then some X else (f_X2_has X v1).bind fun t1 => (if t1 = 0 then b_X4_lookAtAllEntries_28 rec2 X v1 else (f_X0_add X v1 (1)).bind fun X2 => b_X4_lookAtAllEntries_28 rec2 X2 v1))
def l_X4_lookAtAllEntries_2 : JX → Int32 → Option JX := loop2 (lb_X4_lookAtAllEntries_2 ) 1000
def f_X4_lookAtAllEntries (X : JX) : Option JX := l_X4_lookAtAllEntries_2 X (0)
def b_X5_closestPlaces_159 (rec38 : Int32 → Int32 → Int32 → Int32 → Option Int32) (rec48 : Int32 → Int32 → Int32 → Int32 → Option Int32) (X : JX) (v2 : Int32) (v3 : Int32) (q4 : Nat) (v5 : Int32) (v6 : Int32) (v7 : Int32) (v8 : Int32) (v9 : Int32) (v10 : Int32) : Option Int32 := nV (v10 + 1) fun t8 => rec48 v6 v7 v8 t8
def b_X5_closestPlaces_141 (rec38 : Int32 → Int32 → Int32 → Int32 → Option Int32) (rec48 : Int32 → Int32 → Int32 → Int32 → Option Int32) (X : JX) (v2 : Int32) (v3 : Int32) (q4 : Nat) (v5 : Int32) (v9 : Int32) (v10 : Int32) (v11 : Int32) (v12 : Int32) : Option Int32 := nV (((100) * v9) + v10) fun t9 => b_X5_closestPlaces_159 rec38 rec48 X v2 v3 q4 v5 t9 v11 v12 v9 v10
def b_X5_closestPlaces_128 (rec38 : Int32 → Int32 → Int32 → Int32 → Option Int32) (rec48 : Int32 → Int32 → Int32 → Int32 → Option Int32) (X : JX) (v2 : Int32) (v3 : Int32) (q4 : Nat) (v5 : Int32) (v6 : Int32) (v7 : Int32) (v8 : Int32) (v9 : Int32) (v10 : Int32) (v11 : Int32) (v12 : Int32) (s0 : Int32) : Option Int32 := (if v6 = -1 then b_X5_closestPlaces_141 rec38 rec48 X v2 v3 q4 v5 v9 v10 v11 v12 else (if s0 = 0 then b_X5_closestPlaces_159 rec38 rec48 X v2 v3 q4 v5 v6 v7 v8 v9 v10 else b_X5_closestPlaces_141 rec38 rec48 X v2 v3 q4 v5 v9 v10 v11 v12))
def lb_X5_closestPlaces_48 (rec38 : Int32 → Int32 → Int32 → Int32 → Option Int32) (X : JX) (v2 : Int32) (v3 : Int32) (q4 : Nat) (v5 : Int32) (v9 : Int32) (rec48 : Int32 → Int32 → Int32 → Int32 → Option Int32) (v6 : Int32) (v7 : Int32) (v8 : Int32) (v10 : Int32) : Option Int32 := (if v5 ≤ v10 then nV (v9 + 1) fun t5 => rec38 v6 v7 v8 t5 else (if v9 = v10 then b_X5_closestPlaces_159 rec38 rec48 X v2 v3 q4 v5 v6 v7 v8 v9 v10 else (if okI v9 20 = true then (if ¬ (X q4 v9.toNatClampNeg) = v2 then b_X5_closestPlaces_159 rec38 rec48 X v2 v3 q4 v5 v6 v7 v8 v9 v10 else (if okI v10 20 = true then (if (X q4 v10.toNatClampNeg) = v3 then nV (if 0 ≤ (v9 - v10) then (v9 - v10) else 0 - (v9 - v10)) fun t6 => nV (if v10 < v9 then v10 else v9) fun t7 => (if t6 < v7 then b_X5_closestPlaces_128 rec38 rec48 X v2 v3 q4 v5 v6 v7 v8 v9 v10 t6 t7 (1) else (if ¬ t6 = v7 then b_X5_closestPlaces_128 rec38 rec48 X v2 v3 q4 v5 v6 v7 v8 v9 v10 t6 t7 (0) else (if v8 ≤ t7 then b_X5_closestPlaces_128 rec38 rec48 X v2 v3 q4 v5 v6 v7 v8 v9 v10 t6 t7 (0) else b_X5_closestPlaces_128 rec38 rec48 X v2 v3 q4 v5 v6 v7 v8 v9 v10 t6 t7 (1)))) else b_X5_closestPlaces_159 rec38 rec48 X v2 v3 q4 v5 v6 v7 v8 v9 v10) else none)) else none)))
def l_X5_closestPlaces_48 (rec38 : Int32 → Int32 → Int32 → Int32 → Option Int32) (X : JX) (v2 : Int32) (v3 : Int32) (q4 : Nat) (v5 : Int32) (v9 : Int32) : Int32 → Int32 → Int32 → Int32 → Option Int32 := loop4 (lb_X5_closestPlaces_48 rec38 X v2 v3 q4 v5 v9) 1000
def lb_X5_closestPlaces_38 (X : JX) (v2 : Int32) (v3 : Int32) (q4 : Nat) (v5 : Int32) (rec38 : Int32 → Int32 → Int32 → Int32 → Option Int32) (v6 : Int32) (v7 : Int32) (v8 : Int32) (v9 : Int32) : Option Int32 := (if v5 ≤ v9 then some v6 else l_X5_closestPlaces_48 rec38 X v2 v3 q4 v5 v9 v6 v7 v8 (0))
def l_X5_closestPlaces_38 (X : JX) (v2 : Int32) (v3 : Int32) (q4 : Nat) (v5 : Int32) : Int32 → Int32 → Int32 → Int32 → Option Int32 := loop4 (lb_X5_closestPlaces_38 X v2 v3 q4 v5) 1000
def f_X5_closestPlaces (X : JX) (v1 : Int32) (v2 : Int32) (v3 : Int32) : Option Int32 := (f_X2_wordsOf X v1).bind fun q1 => if isI20 q1 = true then (f_X2_lengthOf X v1).bind fun t2 => nV (if (20) < t2 then (20) else t2) fun t3 => nV (-1) fun t4 => l_X5_closestPlaces_38 X v2 v3 q1 t3 t4 (0) (0) (0) else none
def f_X9_peopleOf (X : JX) (v1 : Int32) : Option Int32 := (if v1 < 0 then some (0) else (if 60 ≤ v1 then some (0) else (if okI v1 60 = true then some (X (7) v1.toNatClampNeg) else none)))
def lb_X9_isOpenTo_5 (X : JX) (v1 : Int32) (rec5 : Int32 → Int32 → Option Int32) (v3 : Int32) (v4 : Int32) : Option Int32 := (if 60 ≤ v4 then some (1) else (if v3 = -1 then some (1) else (f_X9_peopleOf X v3).bind fun t1 => (if ¬ ((t1 >>> (v1 &&& 31)) &&& (1)) = 0 then (f_X9_parentOf X v3).bind fun t2 => nV (v4 + 1) fun t3 => rec5 t2 t3 else some (0))))
def l_X9_isOpenTo_5 (X : JX) (v1 : Int32) : Int32 → Int32 → Option Int32 := loop2 (lb_X9_isOpenTo_5 X v1) 1000
def f_X9_isOpenTo (X : JX) (v1 : Int32) (v2 : Int32) : Option Int32 := l_X9_isOpenTo_5 X v1 v2 (0)
def b_X5_score_80 (X : JX) (v3 : Int32) (v4 : Int32) (v5 : Int32) (v6 : Int32) : Option Int32 := (if ¬ v3 = -1 then (if v4 = 0 then some (0) else (if ¬ v5 = 0 then (if v6 = 0 then some ((v4 + v5) + (0)) else some ((v4 + v5) + (10))) else some (0))) else some v4)
def b_X5_score_74 (rec12 : Int32 → Int32 → Int32 → Int32 → Option Int32) (X : JX) (q0 : Nat) (v1 : Int32) (v2 : Int32) (v3 : Int32) (v4 : Int32) (v5 : Int32) (v6 : Int32) (v7 : Int32) : Option Int32 := nV (v7 + 1) fun t3 => rec12 v4 v5 v6 t3
def b_X5_score_72 (rec12 : Int32 → Int32 → Int32 → Int32 → Option Int32) (X : JX) (q0 : Nat) (v1 : Int32) (v2 : Int32) (v3 : Int32) (v4 : Int32) (v5 : Int32) (v7 : Int32) (s0 : Int32) : Option Int32 := b_X5_score_74 rec12 X q0 v1 v2 v3 v4 v5 s0 v7
def b_X5_score_36 (rec12 : Int32 → Int32 → Int32 → Int32 → Option Int32) (X : JX) (q0 : Nat) (v1 : Int32) (v2 : Int32) (v3 : Int32) (v4 : Int32) (v5 : Int32) (v6 : Int32) (v7 : Int32) : Option Int32 := (if okI v7 20 = true then (if ¬ (X q0 v7.toNatClampNeg) = v3 then b_X5_score_74 rec12 X q0 v1 v2 v3 v4 v5 v6 v7 else nV (v5 + 1) fun t2 => (if ¬ v6 = 0 then b_X5_score_72 rec12 X q0 v1 v2 v3 v4 t2 v7 (1) else (if v7 ≤ 0 then b_X5_score_72 rec12 X q0 v1 v2 v3 v4 t2 v7 (0) else (if okI (v7 - (1)) 20 = true then (if ¬ (X q0 (v7 - (1)).toNatClampNeg) = v2 then b_X5_score_72 rec12 X q0 v1 v2 v3 v4 t2 v7 (0) else b_X5_score_72 rec12 X q0 v1 v2 v3 v4 t2 v7 (1)) else none)))) else none)
def lb_X5_score_12 (X : JX) (q0 : Nat) (v1 : Int32) (v2 : Int32) (v3 : Int32) (rec12 : Int32 → Int32 → Int32 → Int32 → Option Int32) (v4 : Int32) (v5 : Int32) (v6 : Int32) (v7 : Int32) : Option Int32 := (if v1 ≤ v7 then b_X5_score_80 X v3 v4 v5 v6 else (if 20 ≤ v7 then b_X5_score_80 X v3 v4 v5 v6 else (if okI v7 20 = true then (if ¬ (X q0 v7.toNatClampNeg) = v2 then b_X5_score_36 rec12 X q0 v1 v2 v3 v4 v5 v6 v7 else nV (v4 + 1) fun t1 => b_X5_score_36 rec12 X q0 v1 v2 v3 t1 v5 v6 v7) else none)))
def l_X5_score_12 (X : JX) (q0 : Nat) (v1 : Int32) (v2 : Int32) (v3 : Int32) : Int32 → Int32 → Int32 → Int32 → Option Int32 := loop4 (lb_X5_score_12 X q0 v1 v2 v3) 1000
def f_X5_score (X : JX) (q0 : Nat) (v1 : Int32) (v2 : Int32) (v3 : Int32) : Option Int32 := l_X5_score_12 X q0 v1 v2 v3 (0) (0) (0) (0)
def f_X5_scoreOf (X : JX) (v1 : Int32) (v2 : Int32) (v3 : Int32) (v4 : Int32) : Option Int32 := (f_X9_isFile X v2).bind fun t1 => (if t1 = 0 then some (0) else (f_X2_has X v2).bind fun t2 => (if t2 = 0 then some (0) else (f_X9_isOpenTo X v1 v2).bind fun t3 => (if ¬ t3 = 0 then (f_X2_wordsOf X v2).bind fun q4 => if isI20 q4 = true then (f_X2_lengthOf X v2).bind fun t5 => (f_X5_score X q4 t5 v3 v4).bind fun t6 => some t6 else none else some (0))))
def b_X5_count_60 (rec6 : Int32 → Int32 → Option Int32) (X : JX) (v1 : Int32) (v2 : Int32) (v3 : Int32) (v4 : Int32) (v5 : Int32) (v6 : Int32) : Option Int32 := nV (v6 + 1) fun t4 => rec6 v5 t4
def b_X5_count_38 (rec6 : Int32 → Int32 → Option Int32) (X : JX) (v1 : Int32) (v2 : Int32) (v3 : Int32) (v4 : Int32) (v5 : Int32) (v6 : Int32) (s0 : Int32) : Option Int32 := (if s0 = 0 then b_X5_count_60 rec6 X v1 v2 v3 v4 v5 v6 else (f_X5_scoreOf X v1 v6 v2 v3).bind fun t2 => (if t2 ≤ 0 then b_X5_count_60 rec6 X v1 v2 v3 v4 v5 v6 else nV (v5 + 1) fun t3 => b_X5_count_60 rec6 X v1 v2 v3 v4 t3 v6))
def lb_X5_count_6 (X : JX) (v1 : Int32) (v2 : Int32) (v3 : Int32) (v4 : Int32) (rec6 : Int32 → Int32 → Option Int32) (v5 : Int32) (v6 : Int32) : Option Int32 := (if 60 ≤ v6 then some v5 else (if v4 = -1 then b_X5_count_38 rec6 X v1 v2 v3 v4 v5 v6 (1) else (f_X2_isBelow X v6 v4).bind fun t1 => (if t1 = 0 then b_X5_count_38 rec6 X v1 v2 v3 v4 v5 v6 (0) else b_X5_count_38 rec6 X v1 v2 v3 v4 v5 v6 (1))))
def l_X5_count_6 (X : JX) (v1 : Int32) (v2 : Int32) (v3 : Int32) (v4 : Int32) : Int32 → Int32 → Option Int32 := loop2 (lb_X5_count_6 X v1 v2 v3 v4) 1000
def f_X5_count (X : JX) (v1 : Int32) (v2 : Int32) (v3 : Int32) (v4 : Int32) : Option Int32 := l_X5_count_6 X v1 v2 v3 v4 (0) (0)
def b_X5_countAhead_60 (rec4 : Int32 → Int32 → Option Int32) (X : JX) (v1 : Int32) (v2 : Int32) (v3 : Int32) : Option Int32 := nV (v3 + 1) fun t2 => rec4 v2 t2
def b_X5_countAhead_57 (rec4 : Int32 → Int32 → Option Int32) (X : JX) (v1 : Int32) (v2 : Int32) (v3 : Int32) : Option Int32 := nV (v2 + 1) fun t1 => b_X5_countAhead_60 rec4 X v1 t1 v3
def b_X5_countAhead_30 (rec4 : Int32 → Int32 → Option Int32) (X : JX) (v1 : Int32) (v2 : Int32) (v3 : Int32) (s0 : Int32) : Option Int32 := (if ¬ s0 = 0 then b_X5_countAhead_57 rec4 X v1 v2 v3 else (if okI v3 60 = true then (if okI v1 60 = true then (if ¬ (X (54) v3.toNatClampNeg) = (X (54) v1.toNatClampNeg) then b_X5_countAhead_60 rec4 X v1 v2 v3 else (if v1 ≤ v3 then b_X5_countAhead_60 rec4 X v1 v2 v3 else b_X5_countAhead_57 rec4 X v1 v2 v3)) else none) else none))
def lb_X5_countAhead_4 (X : JX) (v1 : Int32) (rec4 : Int32 → Int32 → Option Int32) (v2 : Int32) (v3 : Int32) : Option Int32 := (if 60 ≤ v3 then some v2 else (if okI v3 60 = true then (if okI v1 60 = true then (if (X (54) v3.toNatClampNeg) ≤ (X (54) v1.toNatClampNeg) then b_X5_countAhead_30 rec4 X v1 v2 v3 (0) else b_X5_countAhead_30 rec4 X v1 v2 v3 (1)) else none) else none))
def l_X5_countAhead_4 (X : JX) (v1 : Int32) : Int32 → Int32 → Option Int32 := loop2 (lb_X5_countAhead_4 X v1) 1000
def f_X5_countAhead (X : JX) (v1 : Int32) : Option Int32 := l_X5_countAhead_4 X v1 (0) (0)
def f_X5_isWithinNow (X : JX) (v1 : Int32) (v2 : Int32) : Option Int32 := (f_X8_above X v1).bind fun o1 => oC o1 (some (0)) (fun q2 => if isRt q2 = true then (if v2 = -1 then some (1) else (if ¬ v2 = (X q2 3) then (f_X9_isBelow X v2 (X q2 3)).bind fun t3 => (if t3 = 0 then some (0) else (f_X9_isBelow X v1 v2).bind fun t4 => (if t4 = 0 then some (0) else some (1))) else some (1))) else none)
def b_X5_countAnew_97 (rec6 : JX → Int32 → Int32 → Option (Int32 × JX)) (X : JX) (v1 : Int32) (v2 : Int32) (v3 : Int32) (v4 : Int32) (v5 : Int32) (v6 : Int32) : Option (Int32 × JX) := nV (v6 + 1) fun t9 => rec6 X v5 t9
def lb_X5_countAnew_6 (v1 : Int32) (v2 : Int32) (v3 : Int32) (v4 : Int32) (rec6 : JX → Int32 → Int32 → Option (Int32 × JX)) (X : JX) (v5 : Int32) (v6 : Int32) : Option (Int32 × JX) := (if 60 ≤ v6 then some (v5, X) else (f_X9_isFile X v6).bind fun t1 => (if t1 = 0 then b_X5_countAnew_97 rec6 X v1 v2 v3 v4 v5 v6 else (f_X9_isOpenTo X v1 v6).bind fun t2 => (if t2 = 0 then b_X5_countAnew_97 rec6 X v1 v2 v3 v4 v5 v6 else (f_X5_isWithinNow X v6 v4).bind fun t3 => (if t3 = 0 then b_X5_countAnew_97 rec6 X v1 v2 v3 v4 v5 v6 else (f_X9_textOf X v6).bind fun q4 => if isI20 q4 = true then (f_X9_lengthOf X v6).bind fun t5 => (f_X6_takeWords X q4 t5 (55)).bind fun t6 => (f_X5_score t6.2 (55) t6.1 v2 v3).bind fun t7 => (if t7 ≤ 0 then b_X5_countAnew_97 rec6 t6.2 v1 v2 v3 v4 v5 v6 else nV (v5 + 1) fun t8 => b_X5_countAnew_97 rec6 t6.2 v1 v2 v3 v4 t8 v6) else none))))
def l_X5_countAnew_6 (v1 : Int32) (v2 : Int32) (v3 : Int32) (v4 : Int32) : JX → Int32 → Int32 → Option (Int32 × JX) := loop3 (lb_X5_countAnew_6 v1 v2 v3 v4) 1000
def f_X5_countAnew (X : JX) (v1 : Int32) (v2 : Int32) (v3 : Int32) (v4 : Int32) : Option (Int32 × JX) := l_X5_countAnew_6 v1 v2 v3 v4 X (0) (0)
def b_X5_fileAt_77 (rec35 : Int32 → Option (Int32 × JX)) (X : JX) (v4 : Int32) (v5 : Int32) : Option (Int32 × JX) := nV (v5 + 1) fun t5 => rec35 t5
def lb_X5_fileAt_35 (X : JX) (v4 : Int32) (rec35 : Int32 → Option (Int32 × JX)) (v5 : Int32) : Option (Int32 × JX) := (if 60 ≤ v5 then some (-1, X) else (if okI v5 60 = true then (if (X (54) v5.toNatClampNeg) ≤ 0 then b_X5_fileAt_77 rec35 X v4 v5 else (f_X5_countAhead X v5).bind fun t4 => (if ¬ t4 = v4 then b_X5_fileAt_77 rec35 X v4 v5 else (if okI v5 60 = true then some ((((100) * (X (54) v5.toNatClampNeg)) + v5), X) else none))) else none))
def l_X5_fileAt_35 (X : JX) (v4 : Int32) : Int32 → Option (Int32 × JX) := loop1 (lb_X5_fileAt_35 X v4) 1000
def lb_X5_fileAt_3 (v1 : Int32) (v2 : Int32) (v3 : Int32) (v4 : Int32) (rec3 : JX → Int32 → Option (Int32 × JX)) (X : JX) (v5 : Int32) : Option (Int32 × JX) := (if 60 ≤ v5 then l_X5_fileAt_35 X v4 (0) else (f_X5_scoreOf X v1 v5 v2 v3).bind fun t1 => (if okI v5 60 = true then nX (pX X (54) (upd (X (54)) v5.toNatClampNeg t1)) fun X2 => nV (v5 + 1) fun t3 => rec3 X2 t3 else none))
def l_X5_fileAt_3 (v1 : Int32) (v2 : Int32) (v3 : Int32) (v4 : Int32) : JX → Int32 → Option (Int32 × JX) := loop2 (lb_X5_fileAt_3 v1 v2 v3 v4) 1000
def f_X5_fileAt (X : JX) (v1 : Int32) (v2 : Int32) (v3 : Int32) (v4 : Int32) : Option (Int32 × JX) := l_X5_fileAt_3 v1 v2 v3 v4 X (0)
def f_X7_countOrFlood (X : JX) (q0 : Nat) : Option Int32 := (if (X q0 5) = 0 then some (X q0 4) else some (-1))
def f_X7_forgetLast (X : JX) (q0 : Nat) (v1 : Int32) : Option (Int32 × JX) := nX (pX X q0 (upd (X q0) 4 (if (0) < ((X q0 4) - v1) then ((X q0 4) - v1) else (0)))) fun X1 => some ((X1 q0 4), X1)
def f_X7_startAt (X : JX) (q0 : Nat) (v1 : Int32) : Option JX := nX (pX X q0 (upd (X q0) 3 v1)) fun X1 => nX (pX X1 q0 (upd (X1 q0) 4 (0))) fun X2 => (if okB (0) = true then nX (pX X2 q0 (upd (X2 q0) 5 (0))) fun X3 => (f_X7_beginCrawl X3 q0).bind fun X4 => some X4 else none)
def b_X7_tell_24 (X : JX) (q0 : Nat) : Option JX := (if okB (1) = true then nX (pX X q0 (upd (X q0) 5 (1))) fun X4 => nX (pX X4 q0 (upd (X4 q0) 4 (0))) fun X5 => some X5 else none)
def f_X7_tell (X : JX) (q0 : Nat) (v1 : Int32) (v2 : Int32) : Option JX := (if (X q0 5) = 0 then (if (X q0 4) < 0 then b_X7_tell_24 X q0 else (if (X q0 4) < 8 then (if okI (X q0 4) 8 = true then nX (pX X (q0 + 1) (upd (X (q0 + 1)) (X q0 4).toNatClampNeg v1)) fun X1 => (if okI (X1 q0 4) 8 = true then nX (pX X1 (q0 + 2) (upd (X1 (q0 + 2)) (X1 q0 4).toNatClampNeg v2)) fun X2 => nX (pX X2 q0 (upd (X2 q0) 4 ((X2 q0 4) + (1)))) fun X3 => some X3 else none) else none) else b_X7_tell_24 X q0)) else some X)
def f_X7_tellLastAgain (X : JX) (q0 : Nat) : Option JX := nV ((X q0 4) - (1)) fun t1 => (if t1 < 0 then some X else (if 8 ≤ t1 then some X else (if okI t1 8 = true then (if okI t1 8 = true then (f_X7_tell X q0 (X (q0 + 1) t1.toNatClampNeg) (X (q0 + 2) t1.toNatClampNeg)).bind fun X2 => some X2 else none) else none)))
def f_X8_add (X : JX) (v1 : Int32) : Option JX := (if (X (11) 2) < 0 then some X else (if (X (11) 2) < 3 then (if okI (X (11) 2) 3 = true then nN (X (12) (X (11) 2).toNatClampNeg).toNatClampNeg fun q1 => if isRt q1 = true then (f_X7_startAt X q1 v1).bind fun X2 => nX (pX X2 (11) (upd (X2 (11)) 2 ((X2 (11) 2) + (1)))) fun X3 => some X3 else none else none) else some X))
def f_X8_count (X : JX) : Option Int32 := some (X (11) 2)
def b_X8_countCrawls_41 (rec4 : Int32 → Int32 → Option Int32) (X : JX) (v1 : Int32) (v2 : Int32) : Option Int32 := nV (v2 + 1) fun t3 => rec4 v1 t3
def lb_X8_countCrawls_4 (X : JX) (rec4 : Int32 → Int32 → Option Int32) (v1 : Int32) (v2 : Int32) : Option Int32 := (if (X (11) 2) ≤ v2 then some v1 else (if 3 ≤ v2 then some v1 else (if okI v2 3 = true then nN (X (12) v2.toNatClampNeg).toNatClampNeg fun q1 => if isRt q1 = true then (if (X (q1 + 3) 4) = 0 then b_X8_countCrawls_41 rec4 X v1 v2 else nV (v1 + 1) fun t2 => b_X8_countCrawls_41 rec4 X t2 v2) else none else none)))
def l_X8_countCrawls_4 (X : JX) : Int32 → Int32 → Option Int32 := loop2 (lb_X8_countCrawls_4 X) 1000
def f_X8_countCrawls (X : JX) : Option Int32 := l_X8_countCrawls_4 X (0) (0)
def b_X8_end_68 (X : JX) (q2 : Nat) (v3 : Int32) : Option JX := (if 3 ≤ v3 then nX (pX X (11) (upd (X (11)) 2 v3)) fun X6 => some X6 else (if okI v3 3 = true then nX (pX X (12) (upd (X (12)) v3.toNatClampNeg (nI q2))) fun X7 => nX (pX X7 (11) (upd (X7 (11)) 2 v3)) fun X8 => some X8 else none))
def b_X8_end_62 (rec16 : JX → Int32 → Int32 → Option JX) (X : JX) (q2 : Nat) (v3 : Int32) (v4 : Int32) : Option JX := nV (v4 + 1) fun t9 => rec16 X v3 t9
def lb_X8_end_16 (q2 : Nat) (rec16 : JX → Int32 → Int32 → Option JX) (X : JX) (v3 : Int32) (v4 : Int32) : Option JX := (if (X (11) 2) ≤ v4 then b_X8_end_68 X q2 v3 else (if 3 ≤ v4 then b_X8_end_68 X q2 v3 else (if okI v4 3 = true then nN (X (12) v4.toNatClampNeg).toNatClampNeg fun q3 => if isRt q3 = true then (if q3 = q2 then b_X8_end_62 rec16 X q2 v3 v4 else (if 3 ≤ v3 then b_X8_end_62 rec16 X q2 v3 v4 else (if okI v3 3 = true then nX (pX X (12) (upd (X (12)) v3.toNatClampNeg (nI q3))) fun X4 => nV (v3 + 1) fun t5 => b_X8_end_62 rec16 X4 q2 t5 v4 else none))) else none else none)))
def l_X8_end_16 (q2 : Nat) : JX → Int32 → Int32 → Option JX := loop3 (lb_X8_end_16 q2) 1000
def f_X8_end (X : JX) (v1 : Int32) : Option JX := (f_X8_find X v1).bind fun o1 => oC o1 (some X) (fun q2 => if isRt q2 = true then l_X8_end_16 q2 X (0) (0) else none)
def f_X9_isThere (X : JX) (v1 : Int32) : Option Int32 := (if v1 < 0 then some (0) else (if 60 ≤ v1 then some (0) else (if okI v1 60 = true then (if (X (5) v1.toNatClampNeg) = 0 then some (0) else some (1)) else none)))
def b_X8_endGone_51 (rec4 : JX → Int32 → Int32 → Option (Int32 × JX)) (X : JX) (v1 : Int32) (v2 : Int32) : Option (Int32 × JX) := nV (v2 + (-1)) fun t4 => rec4 X v1 t4
def lb_X8_endGone_4 (rec4 : JX → Int32 → Int32 → Option (Int32 × JX)) (X : JX) (v1 : Int32) (v2 : Int32) : Option (Int32 × JX) := (if v2 < 0 then (if okB v1 = true then some (v1, X) else none) else (if okI v2 3 = true then nN (X (12) v2.toNatClampNeg).toNatClampNeg fun q1 => if isRt q1 = true then (if (X (11) 2) ≤ v2 then b_X8_endGone_51 rec4 X v1 v2 else (f_X9_isThere X (X q1 3)).bind fun t2 => (if ¬ t2 = 0 then b_X8_endGone_51 rec4 X v1 v2 else (f_X8_end X (X q1 3)).bind fun X3 => b_X8_endGone_51 rec4 X3 (1) v2)) else none else none))
def l_X8_endGone_4 : JX → Int32 → Int32 → Option (Int32 × JX) := loop3 (lb_X8_endGone_4 ) 1000
def f_X8_endGone (X : JX) : Option (Int32 × JX) := l_X8_endGone_4 X (0) (2)
def b_X8_hasAtOrBelow_51 (rec2 : Int32 → Option Int32) (X : JX) (v1 : Int32) (v2 : Int32) : Option Int32 := nV (v2 + 1) fun t3 => rec2 t3
def lb_X8_hasAtOrBelow_2 (X : JX) (v1 : Int32) (rec2 : Int32 → Option Int32) (v2 : Int32) : Option Int32 := (if (X (11) 2) ≤ v2 then some (0) else (if 3 ≤ v2 then some (0) else (if okI v2 3 = true then nN (X (12) v2.toNatClampNeg).toNatClampNeg fun q1 => if isRt q1 = true then (if (X q1 3) = v1 then some (1) else (f_X9_isBelow X (X q1 3) v1).bind fun t2 => (if t2 = 0 then b_X8_hasAtOrBelow_51 rec2 X v1 v2 else some (1))) else none else none)))
def l_X8_hasAtOrBelow_2 (X : JX) (v1 : Int32) : Int32 → Option Int32 := loop1 (lb_X8_hasAtOrBelow_2 X v1) 1000
def f_X8_hasAtOrBelow (X : JX) (v1 : Int32) : Option Int32 := l_X8_hasAtOrBelow_2 X v1 (0)
def f_X8_isFull (X : JX) : Option Int32 := (if (X (11) 2) < 3 then some (0) else some (1))
def f_X8_tellAbove (X : JX) (v1 : Int32) (v2 : Int32) : Option JX := (f_X8_above X v1).bind fun o1 => oC o1 (some X) (fun q2 => if isRt q2 = true then (f_X7_tell X q2 v2 v1).bind fun X3 => some X3 else none)
def b_X9_add_80 (X : JX) (v4 : Int32) (s0 : Int32) (s1 : Int32) : Option (Int32 × JX) := (if okI s1 60 = true then nX (pX X (8) (upd (X (8)) s1.toNatClampNeg s0)) fun X7 => nX (pX X7 (1) (upd (X7 (1)) 9 ((X7 (1) 9) + (1)))) fun X8 => some (v4, X8) else none)
def f_X9_add (X : JX) (v1 : Int32) (v2 : Int32) (v3 : Int32) : Option (Int32 × JX) := (if (X (1) 9) < 0 then some (-1, X) else (if (X (1) 9) < 60 then nV (X (1) 9) fun t1 => (if okI t1 60 = true then nX (pX X (2) (upd (X (2)) t1.toNatClampNeg v1)) fun X2 => (if okI t1 60 = true then nX (pX X2 (3) (upd (X2 (3)) t1.toNatClampNeg (vp_nar .char v2))) fun X3 => (if okI t1 60 = true then nX (pX X3 (4) (upd (X3 (4)) t1.toNatClampNeg (vp_nar .boolean v3))) fun X4 => (if okI t1 60 = true then nX (pX X4 (5) (upd (X4 (5)) t1.toNatClampNeg (vp_nar .boolean (1)))) fun X5 => (if okI t1 60 = true then nX (pX X5 (7) (upd (X5 (7)) t1.toNatClampNeg (15))) fun X6 => (if v3 = 0 then b_X9_add_80 X6 t1 (1) t1 else b_X9_add_80 X6 t1 (0) t1) else none) else none) else none) else none) else none) else some (-1, X)))
def f_X9_append (X : JX) (v1 : Int32) (v2 : Int32) : Option JX := (f_X9_lengthOf X v1).bind fun t1 => (f_X9_isFile X v1).bind fun t2 => (if t2 = 0 then some X else (if t1 < 0 then some X else (if 20 ≤ t1 then some X else (if okI v1 60 = true then nN (56 + v1.toNatClampNeg) fun q3 => if isI20 q3 = true then (if okI t1 20 = true then nX (pX X q3 (upd (X q3) t1.toNatClampNeg v2)) fun X4 => (if okI v1 60 = true then nX (pX X4 (9) (upd (X4 (9)) v1.toNatClampNeg (t1 + (1)))) fun X5 => (if okI v1 60 = true then (if okI v1 60 = true then nX (pX X5 (8) (upd (X5 (8)) v1.toNatClampNeg ((X5 (8) v1.toNatClampNeg) + (1)))) fun X6 => some X6 else none) else none) else none) else none) else none else none))))
def f_X9_clearText (X : JX) (v1 : Int32) : Option JX := (f_X9_isFile X v1).bind fun t1 => (if t1 = 0 then some X else (if okI v1 60 = true then nX (pX X (9) (upd (X (9)) v1.toNatClampNeg (0))) fun X2 => (if okI v1 60 = true then (if okI v1 60 = true then nX (pX X2 (8) (upd (X2 (8)) v1.toNatClampNeg ((X2 (8) v1.toNatClampNeg) + (1)))) fun X3 => some X3 else none) else none) else none))
def b_X9_countThere_22 (rec4 : Int32 → Int32 → Option Int32) (X : JX) (v1 : Int32) (v2 : Int32) : Option Int32 := nV (v2 + 1) fun t2 => rec4 v1 t2
def lb_X9_countThere_4 (X : JX) (rec4 : Int32 → Int32 → Option Int32) (v1 : Int32) (v2 : Int32) : Option Int32 := (if 60 ≤ v2 then some v1 else (if okI v2 60 = true then (if (X (5) v2.toNatClampNeg) = 0 then b_X9_countThere_22 rec4 X v1 v2 else nV (v1 + 1) fun t1 => b_X9_countThere_22 rec4 X t1 v2) else none))
def l_X9_countThere_4 (X : JX) : Int32 → Int32 → Option Int32 := loop2 (lb_X9_countThere_4 X) 1000
def f_X9_countThere (X : JX) : Option Int32 := l_X9_countThere_4 X (0) (0)
def b_X9_findIn_39 (rec2 : Int32 → Option Int32) (X : JX) (v1 : Int32) (v2 : Int32) (v3 : Int32) : Option Int32 := nV (v3 + 1) fun t1 => rec2 t1
def lb_X9_findIn_2 (X : JX) (v1 : Int32) (v2 : Int32) (rec2 : Int32 → Option Int32) (v3 : Int32) : Option Int32 := (if 60 ≤ v3 then some (-1) else (if okI v3 60 = true then (if (X (5) v3.toNatClampNeg) = 0 then b_X9_findIn_39 rec2 X v1 v2 v3 else (if okI v3 60 = true then (if ¬ (X (2) v3.toNatClampNeg) = v1 then b_X9_findIn_39 rec2 X v1 v2 v3 else (if okI v3 60 = true then (if ¬ (X (3) v3.toNatClampNeg) = v2 then b_X9_findIn_39 rec2 X v1 v2 v3 else some v3) else none)) else none)) else none))
def l_X9_findIn_2 (X : JX) (v1 : Int32) (v2 : Int32) : Int32 → Option Int32 := loop1 (lb_X9_findIn_2 X v1 v2) 1000
def f_X9_findIn (X : JX) (v1 : Int32) (v2 : Int32) : Option Int32 := l_X9_findIn_2 X v1 v2 (0)
def f_X9_isFull (X : JX) : Option Int32 := (if (X (1) 9) < 60 then some (0) else some (1))
def f_X9_put (X : JX) (v1 : Int32) (v2 : Int32) (v3 : Int32) : Option JX := (f_X9_isThere X v1).bind fun t1 => (if t1 = 0 then some X else (if okI v1 60 = true then nX (pX X (2) (upd (X (2)) v1.toNatClampNeg v2)) fun X2 => (if okI v1 60 = true then nX (pX X2 (3) (upd (X2 (3)) v1.toNatClampNeg (vp_nar .char v3))) fun X3 => some X3 else none) else none))
def f_X9_setLocked (X : JX) (v1 : Int32) (v2 : Int32) : Option JX := (f_X9_isFile X v1).bind fun t1 => (if t1 = 0 then some X else (if okI v1 60 = true then nX (pX X (6) (upd (X (6)) v1.toNatClampNeg (vp_nar .boolean v2))) fun X2 => some X2 else none))
def f_X9_setPeople (X : JX) (v1 : Int32) (v2 : Int32) : Option JX := (f_X9_isThere X v1).bind fun t1 => (if t1 = 0 then some X else (if okI v1 60 = true then nX (pX X (7) (upd (X (7)) v1.toNatClampNeg v2)) fun X2 => some X2 else none))
def b_X9_takeAway_73 (rec51 : JX → Int32 → Option (Int32 × JX)) (X : JX) (v2 : Int32) (v3 : Int32) : Option (Int32 × JX) := nV (v3 + 1) fun t6 => rec51 X t6
def lb_X9_takeAway_51 (v2 : Int32) (rec51 : JX → Int32 → Option (Int32 × JX)) (X : JX) (v3 : Int32) : Option (Int32 × JX) := (if 60 ≤ v3 then some (v2, X) else (if okI v3 60 = true then (if ¬ (X (5) v3.toNatClampNeg) = 0 then b_X9_takeAway_73 rec51 X v2 v3 else (if okI v3 60 = true then nX (pX X (2) (upd (X (2)) v3.toNatClampNeg (-1))) fun X2 => b_X9_takeAway_73 rec51 X2 v2 v3 else none)) else none))
def l_X9_takeAway_51 (v2 : Int32) : JX → Int32 → Option (Int32 × JX) := loop2 (lb_X9_takeAway_51 v2) 1000
def b_X9_takeAway_43 (rec4 : JX → Int32 → Int32 → Option (Int32 × JX)) (X : JX) (v1 : Int32) (v2 : Int32) (v3 : Int32) : Option (Int32 × JX) := nV (v3 + 1) fun t3 => rec4 X v2 t3
def b_X9_takeAway_33 (rec4 : JX → Int32 → Int32 → Option (Int32 × JX)) (X : JX) (v1 : Int32) (v2 : Int32) (v3 : Int32) : Option (Int32 × JX) := (if okI v3 60 = true then nX (pX X (5) (upd (X (5)) v3.toNatClampNeg (vp_nar .boolean (0)))) fun X4 => nV (v2 + 1) fun t5 => b_X9_takeAway_43 rec4 X4 v1 t5 v3 else none)
def lb_X9_takeAway_4 (v1 : Int32) (rec4 : JX → Int32 → Int32 → Option (Int32 × JX)) (X : JX) (v2 : Int32) (v3 : Int32) : Option (Int32 × JX) := (if 60 ≤ v3 then l_X9_takeAway_51 v2 X (0) else (if okI v3 60 = true then (if (X (5) v3.toNatClampNeg) = 0 then b_X9_takeAway_43 rec4 X v1 v2 v3 else (if v3 = v1 then b_X9_takeAway_33 rec4 X v1 v2 v3 else (f_X9_isBelow X v3 v1).bind fun t1 => (if t1 = 0 then b_X9_takeAway_43 rec4 X v1 v2 v3 else b_X9_takeAway_33 rec4 X v1 v2 v3))) else none))
def l_X9_takeAway_4 (v1 : Int32) : JX → Int32 → Int32 → Option (Int32 × JX) := loop3 (lb_X9_takeAway_4 v1) 1000
def f_X9_takeAway (X : JX) (v1 : Int32) : Option (Int32 × JX) := l_X9_takeAway_4 v1 X (0) (0)
def f_X9_wasMade (X : JX) (v1 : Int32) : Option Int32 := (if v1 < 0 then some (0) else (if (X (1) 9) ≤ v1 then some (0) else some (1)))
def f_X10_acts (X : JX) : Option Int32 := (f_X4_countActs X ).bind fun t1 => some t1
def f_X10_isPerson (X : JX) (v0 : Int32) : Option Int32 := (if v0 < 0 then some (0) else (if 4 ≤ v0 then some (0) else some (1)))
def f_X10_isWord (X : JX) (v0 : Int32) : Option Int32 := (if v0 < 0 then some (0) else (if 99 < v0 then some (0) else some (1)))
def b_X10_isWordOrNone_12 (X : JX) : Option Int32 := some (1)
def f_X10_isWordOrNone (X : JX) (v0 : Int32) : Option Int32 := (if v0 = -1 then b_X10_isWordOrNone_12 X else (f_X10_isWord X v0).bind fun t1 => (if t1 = 0 then some (0) else b_X10_isWordOrNone_12 X))
def b_X10_answer_32 (X : JX) : Option (Option Nat × Int32 × JX) := some (some 2, 0, X)
def f_X10_answer (X : JX) (v1 : Int32) (v2 : Int32) (v3 : Int32) (v4 : Int32) : Option (Option Nat × Int32 × JX) := (f_X10_isPerson X v1).bind fun t1 => (if ¬ t1 = 0 then (f_X10_isWord X v2).bind fun t2 => (if t2 = 0 then b_X10_answer_32 X else (f_X10_isWordOrNone X v3).bind fun t3 => (if ¬ t3 = 0 then (f_X5_fileAt X v1 v2 v3 v4).bind fun t4 => (if ¬ t4.1 = -1 then some (none, t4.1, t4.2) else some (some 1, 0, t4.2)) else b_X10_answer_32 X)) else some (some 1, 0, X))
def b_X10_isMadeOrNone_16 (X : JX) : Option Int32 := some (1)
def f_X10_isMadeOrNone (X : JX) (v1 : Int32) : Option Int32 := (if v1 = -1 then b_X10_isMadeOrNone_16 X else (f_X9_wasMade X v1).bind fun t1 => (if t1 = 0 then some (0) else b_X10_isMadeOrNone_16 X))
def b_X10_answers_16 (X : JX) : Option (Option Nat × Int32 × JX) := some (some 1, 0, X)
def b_X10_answers_41 (X : JX) : Option (Option Nat × Int32 × JX) := some (some 2, 0, X)
def f_X10_answers (X : JX) (v1 : Int32) (v2 : Int32) (v3 : Int32) (v4 : Int32) : Option (Option Nat × Int32 × JX) := (f_X10_isPerson X v1).bind fun t1 => (if t1 = 0 then b_X10_answers_16 X else (f_X10_isMadeOrNone X v4).bind fun t2 => (if ¬ t2 = 0 then (f_X10_isWord X v2).bind fun t3 => (if t3 = 0 then b_X10_answers_41 X else (f_X10_isWordOrNone X v3).bind fun t4 => (if ¬ t4 = 0 then (f_X5_count X v1 v2 v3 v4).bind fun t5 => some (none, t5, X) else b_X10_answers_41 X)) else b_X10_answers_16 X))
def b_X10_answersAnew_16 (X : JX) : Option (Option Nat × Int32 × JX) := some (some 1, 0, X)
def b_X10_answersAnew_41 (X : JX) : Option (Option Nat × Int32 × JX) := some (some 2, 0, X)
def f_X10_answersAnew (X : JX) (v1 : Int32) (v2 : Int32) (v3 : Int32) (v4 : Int32) : Option (Option Nat × Int32 × JX) := (f_X10_isPerson X v1).bind fun t1 => (if t1 = 0 then b_X10_answersAnew_16 X else (f_X10_isMadeOrNone X v4).bind fun t2 => (if ¬ t2 = 0 then (f_X10_isWord X v2).bind fun t3 => (if t3 = 0 then b_X10_answersAnew_41 X else (f_X10_isWordOrNone X v3).bind fun t4 => (if ¬ t4 = 0 then (f_X5_countAnew X v1 v2 v3 v4).bind fun t5 => some (none, t5.1, t5.2) else b_X10_answersAnew_41 X)) else b_X10_answersAnew_16 X))
def f_X10_battery (X : JX) (v1 : Int32) : Option (Int32 × JX) := nV (X (0) 7) fun t1 => (if okB v1 = true then nX (pX X (0) (upd (X (0)) 7 v1)) fun X2 => (if okB t1 = true then some (t1, X2) else none) else none)
def b_X10_closest_30 (X : JX) : Option (Option Nat × Int32 × JX) := some (some 1, 0, X)
def b_X10_closest_56 (X : JX) : Option (Option Nat × Int32 × JX) := some (some 2, 0, X)
def f_X10_closest (X : JX) (v1 : Int32) (v2 : Int32) (v3 : Int32) (v4 : Int32) : Option (Option Nat × Int32 × JX) := (f_X10_isPerson X v1).bind fun t1 => (if t1 = 0 then b_X10_closest_30 X else (f_X9_isFile X v2).bind fun t2 => (if t2 = 0 then b_X10_closest_30 X else (f_X9_isOpenTo X v1 v2).bind fun t3 => (if ¬ t3 = 0 then (f_X10_isWord X v3).bind fun t4 => (if t4 = 0 then b_X10_closest_56 X else (f_X10_isWord X v4).bind fun t5 => (if ¬ t5 = 0 then (f_X5_closestPlaces X v2 v3 v4).bind fun t6 => some (none, t6, X) else b_X10_closest_56 X)) else b_X10_closest_30 X)))
def f_X10_crawl (X : JX) (v1 : Int32) : Option (Option Nat × Int32 × JX) := (f_X8_find X v1).bind fun o1 => oC o1 (some (some 1, 0, X)) (fun q2 => if isRt q2 = true then (f_X7_beginCrawl X q2).bind fun X3 => (f_X8_countCrawls X3 ).bind fun t4 => some (none, t4, X3) else none)
def f_X10_dead (X : JX) : Option Int32 := (f_X4_countDead X ).bind fun t1 => some t1
def f_X10_edition (X : JX) (v1 : Int32) : Option (Option Nat × Int32 × JX) := (f_X9_wasMade X v1).bind fun t1 => (if ¬ t1 = 0 then (f_X2_editionOf X v1).bind fun t2 => some (none, t2, X) else some (some 1, 0, X))
def f_X10_empty (X : JX) (v1 : Int32) : Option (Option Nat × Int32 × JX) := (f_X9_isFile X v1).bind fun t1 => (if ¬ t1 = 0 then (f_X9_isLocked X v1).bind fun t2 => (if t2 = 0 then (f_X9_lengthOf X v1).bind fun t3 => (f_X9_clearText X v1).bind fun X4 => (f_X8_tellAbove X4 v1 (2)).bind fun X5 => some (none, t3, X5) else some (some 3, 0, X)) else some (some 1, 0, X))
def f_X10_entries (X : JX) : Option Int32 := (f_X2_count X ).bind fun t1 => some t1
def f_X10_isName (X : JX) (v0 : Int32) : Option Int32 := (if v0 < 97 then some (0) else (if 122 < v0 then some (0) else some (1)))
def f_X10_isQuiet (X : JX) : Option Int32 := (f_X8_firstNoisy X ).bind fun o1 => oC o1 ((f_X4_countActs X ).bind fun t3 => (if ¬ t3 = 0 then some (0) else (f_X8_countCrawls X ).bind fun t4 => (if ¬ t4 = 0 then some (0) else some (1)))) (fun q2 => if isRt q2 = true then some (0) else none)
def b_X10_limits_20 (X : JX) : Option (Option Nat × Int32 × JX) := some (some 2, 0, X)
def f_X10_limits (X : JX) (v1 : Int32) (v2 : Int32) : Option (Option Nat × Int32 × JX) := (if v1 < 0 then b_X10_limits_20 X else (if 3 < v1 then b_X10_limits_20 X else (if v2 < 1 then b_X10_limits_20 X else (if v2 ≤ 20 then nV (X (34) 1) fun t1 => nX (pX X (34) (upd (X (34)) 0 v1)) fun X2 => nX (pX X2 (34) (upd (X2 (34)) 1 v2)) fun X3 => some (none, t1, X3) else b_X10_limits_20 X))))
def f_X10_lock (X : JX) (v1 : Int32) (v2 : Int32) : Option (Option Nat × Int32 × JX) := (f_X9_isFile X v1).bind fun t1 => (if ¬ t1 = 0 then (f_X9_isLocked X v1).bind fun t2 => (f_X9_setLocked X v1 v2).bind fun X3 => (if okB t2 = true then some (none, t2, X3) else none) else some (some 1, 0, X))
def b_X10_lose_34 (X : JX) : Option (Option Nat × Int32 × JX) := some (some 2, 0, X)
def f_X10_lose (X : JX) (v1 : Int32) (v2 : Int32) : Option (Option Nat × Int32 × JX) := (f_X8_find X v1).bind fun o1 => oC o1 (some (some 1, 0, X)) (fun q2 => if isRt q2 = true then (if v2 < 1 then b_X10_lose_34 X else (if v2 ≤ 8 then (f_X7_forgetLast X q2 v2).bind fun t3 => some (none, t3.1, t3.2) else b_X10_lose_34 X)) else none)
def b_X10_make_61 (X : JX) : Option (Option Nat × Int32 × JX) := some (some 3, 0, X)
def f_X10_make (X : JX) (v1 : Int32) (v2 : Int32) (v3 : Int32) : Option (Option Nat × Int32 × JX) := (f_X9_isFolder X v1).bind fun t1 => (if ¬ t1 = 0 then (f_X10_isName X v2).bind fun t2 => (if ¬ t2 = 0 then (f_X9_findIn X v1 v2).bind fun t3 => (if ¬ t3 = -1 then b_X10_make_61 X else (f_X9_isFull X ).bind fun t4 => (if t4 = 0 then (f_X9_add X v1 v2 v3).bind fun t5 => (f_X8_tellAbove t5.2 t5.1 (1)).bind fun X6 => some (none, t5.1, X6) else b_X10_make_61 X)) else some (some 2, 0, X)) else some (some 1, 0, X))
def b_X10_mayRead_18 (X : JX) : Option (Option Nat × Int32 × JX) := some (some 1, 0, X)
def f_X10_mayRead (X : JX) (v1 : Int32) (v2 : Int32) : Option (Option Nat × Int32 × JX) := (f_X10_isPerson X v1).bind fun t1 => (if t1 = 0 then b_X10_mayRead_18 X else (f_X9_isThere X v2).bind fun t2 => (if ¬ t2 = 0 then (f_X9_isOpenTo X v1 v2).bind fun t3 => (if okB t3 = true then some (none, t3, X) else none) else b_X10_mayRead_18 X))
def b_X10_move_26 (X : JX) : Option (Option Nat × Int32 × JX) := some (some 1, 0, X)
def b_X10_move_93 (X : JX) : Option (Option Nat × Int32 × JX) := some (some 3, 0, X)
def b_X10_move_188n5 (X : JX) (v1 : Int32) (v7 : Int32) : Option (Option Nat × Int32 × JX) := some (none, v7, X)
def b_X10_move_139n5 (X : JX) (v1 : Int32) (v2 : Int32) (v3 : Int32) : Option (Option Nat × Int32 × JX) := (f_X8_above X v1).bind fun o9 => oC o9 ((f_X9_parentOf X v1).bind fun t11 => (f_X9_put X v1 v2 v3).bind fun X12 => b_X10_move_188n5 X12 v1 t11) (fun q10 => if isRt q10 = true then (f_X9_parentOf X v1).bind fun t13 => (f_X9_put X v1 v2 v3).bind fun X14 => (f_X7_tell X14 q10 (3) v1).bind fun X15 => b_X10_move_188n5 X15 v1 t13 else none)
def b_X10_move_188 (X : JX) (v1 : Int32) (q5 : Nat) (v7 : Int32) : Option (Option Nat × Int32 × JX) := (f_X7_tell X q5 (1) v1).bind fun X23 => some (none, v7, X23)
def b_X10_move_139 (X : JX) (v1 : Int32) (v2 : Int32) (v3 : Int32) (q5 : Nat) : Option (Option Nat × Int32 × JX) := (f_X8_above X v1).bind fun o16 => oC o16 ((f_X9_parentOf X v1).bind fun t18 => (f_X9_put X v1 v2 v3).bind fun X19 => b_X10_move_188 X19 v1 q5 t18) (fun q17 => if isRt q17 = true then (f_X9_parentOf X v1).bind fun t20 => (f_X9_put X v1 v2 v3).bind fun X21 => (if q17 = q5 then b_X10_move_188 X21 v1 q5 t20 else (f_X7_tell X21 q17 (3) v1).bind fun X22 => b_X10_move_188 X22 v1 q5 t20) else none)
def b_X10_move_103 (X : JX) (v1 : Int32) (v2 : Int32) (v3 : Int32) : Option (Option Nat × Int32 × JX) := (f_X8_holding X v2).bind fun o6 => oC o6 (b_X10_move_139n5 X v1 v2 v3) (fun q7 => if isRt q7 = true then (f_X8_hasAtOrBelow X v1).bind fun t8 => (if t8 = 0 then b_X10_move_139 X v1 v2 v3 q7 else some (some 3, 0, X)) else none)
def f_X10_move (X : JX) (v1 : Int32) (v2 : Int32) (v3 : Int32) : Option (Option Nat × Int32 × JX) := (if v1 = 0 then b_X10_move_26 X else (f_X9_isThere X v1).bind fun t1 => (if t1 = 0 then b_X10_move_26 X else (f_X9_isFolder X v2).bind fun t2 => (if ¬ t2 = 0 then (f_X10_isName X v3).bind fun t3 => (if ¬ t3 = 0 then (f_X9_findIn X v2 v3).bind fun t4 => (if v2 = v1 then b_X10_move_93 X else (f_X9_isBelow X v2 v1).bind fun t5 => (if ¬ t5 = 0 then b_X10_move_93 X else (if t4 = -1 then b_X10_move_103 X v1 v2 v3 else (if t4 = v1 then b_X10_move_103 X v1 v2 v3 else b_X10_move_93 X)))) else some (some 2, 0, X)) else b_X10_move_26 X)))
def f_X10_nodes (X : JX) : Option Int32 := (f_X9_countThere X ).bind fun t1 => some t1
def f_X10_notices (X : JX) (v1 : Int32) : Option (Option Nat × Int32 × JX) := (f_X8_find X v1).bind fun o1 => oC o1 (some (some 1, 0, X)) (fun q2 => if isRt q2 = true then (f_X7_countOrFlood X q2).bind fun t3 => some (none, t3, X) else none)
def b_X10_pass_12 (X : JX) : Option (Option Nat × Int32 × JX) := some (some 2, 0, X)
def f_X10_pass (X : JX) (v1 : Int32) : Option (Option Nat × Int32 × JX) := (if v1 < 1 then b_X10_pass_12 X else (if v1 ≤ 1000 then (if ((X (0) 6) + v1) ≤ 100000 then nV ((X (0) 6) / (60)) fun t1 => nX (pX X (0) (upd (X (0)) 6 ((X (0) 6) + v1))) fun X2 => (if ((X2 (0) 6) / (60)) = t1 then some (none, (X2 (0) 6), X2) else nX (pX X2 (0) (upd (X2 (0)) 8 (0))) fun X3 => some (none, (X3 (0) 6), X3)) else some (some 3, 0, X)) else b_X10_pass_12 X))
def b_X10_people_31 (X : JX) : Option (Option Nat × Int32 × JX) := some (some 2, 0, X)
def f_X10_people (X : JX) (v1 : Int32) (v2 : Int32) : Option (Option Nat × Int32 × JX) := (f_X9_isThere X v1).bind fun t1 => (if ¬ t1 = 0 then (if v2 < 0 then b_X10_people_31 X else (if v2 ≤ 15 then (f_X9_peopleOf X v1).bind fun t2 => (f_X9_setPeople X v1 v2).bind fun X3 => some (none, t2, X3) else b_X10_people_31 X)) else some (some 1, 0, X))
def b_X10_remove_15 (X : JX) : Option (Option Nat × Int32 × JX) := some (some 1, 0, X)
def f_X10_remove (X : JX) (v1 : Int32) : Option (Option Nat × Int32 × JX) := (if v1 = 0 then b_X10_remove_15 X else (f_X9_isThere X v1).bind fun t1 => (if ¬ t1 = 0 then (f_X8_tellAbove X v1 (3)).bind fun X2 => (f_X9_takeAway X2 v1).bind fun t3 => (f_X8_endGone t3.2 ).bind fun t4 => (if t4.1 = 0 then some (none, t3.1, t4.2) else (f_X4_lookAtAllEntries t4.2 ).bind fun X5 => some (none, t3.1, X5)) else b_X10_remove_15 X))
def f_X10_segments (X : JX) : Option Int32 := (f_X4_countSegments X ).bind fun t1 => some t1
def f_X10_stale (X : JX) : Option Int32 := (f_X2_countStale X ).bind fun t1 => some t1
def f_X10_twice (X : JX) (v1 : Int32) : Option (Option Nat × Int32 × JX) := (f_X8_find X v1).bind fun o1 => oC o1 (some (some 1, 0, X)) (fun q2 => if isRt q2 = true then (f_X7_hasNotices X q2).bind fun t3 => (if ¬ t3 = 0 then (f_X7_tellLastAgain X q2).bind fun X4 => (f_X7_countOrFlood X4 q2).bind fun t5 => some (none, t5, X4) else some (some 3, 0, X)) else none)
def b_X10_watch_87 (X : JX) : Option (Option Nat × Int32 × JX) := some (some 3, 0, X)
def f_X10_watch (X : JX) (v1 : Int32) : Option (Option Nat × Int32 × JX) := (f_X9_isFolder X v1).bind fun t1 => (if ¬ t1 = 0 then (f_X8_find X v1).bind fun o2 => oC o2 ((f_X8_isFull X ).bind fun t4 => (if ¬ t4 = 0 then b_X10_watch_87 X else (f_X8_holding X v1).bind fun o5 => oC o5 ((f_X8_hasAtOrBelow X v1).bind fun t7 => (if t7 = 0 then (f_X8_add X v1).bind fun X8 => (f_X8_count X8 ).bind fun t9 => some (none, t9, X8) else b_X10_watch_87 X)) (fun q6 => if isRt q6 = true then b_X10_watch_87 X else none))) (fun q3 => if isRt q3 = true then (f_X8_end X v1).bind fun X10 => (f_X4_lookAtAllEntries X10 ).bind fun X11 => (f_X8_count X11 ).bind fun t12 => some (none, t12, X11) else none) else some (some 1, 0, X))
def b_X10_work_12 (X : JX) : Option (Option Nat × Int32 × JX) := some (some 2, 0, X)
def f_X10_work (X : JX) (v1 : Int32) : Option (Option Nat × Int32 × JX) := (if v1 < 1 then b_X10_work_12 X else (if v1 ≤ 500 then (if ¬ (X (0) 7) = 0 then (f_X4_doSteps X (if ((20) - (X (0) 8)) < v1 then ((20) - (X (0) 8)) else v1)).bind fun t1 => nX (pX t1.2 (0) (upd (t1.2 (0)) 8 ((t1.2 (0) 8) + t1.1))) fun X2 => some (none, t1.1, X2) else (f_X4_doSteps X v1).bind fun t3 => some (none, t3.1, t3.2)) else b_X10_work_12 X))
def b_X10_write_74 (X : JX) : Option (Option Nat × Int32 × JX) := some (some 3, 0, X)
def b_X10_write_50 (X : JX) (v1 : Int32) (v2 : Int32) : Option (Option Nat × Int32 × JX) := (f_X9_isLocked X v1).bind fun t3 => (if ¬ t3 = 0 then b_X10_write_74 X else (f_X9_lengthOf X v1).bind fun t4 => (if t4 < 20 then (f_X9_append X v1 v2).bind fun X5 => (f_X8_tellAbove X5 v1 (2)).bind fun X6 => (f_X9_editionOf X6 v1).bind fun t7 => some (none, t7, X6) else b_X10_write_74 X))
def f_X10_write (X : JX) (v1 : Int32) (v2 : Int32) : Option (Option Nat × Int32 × JX) := (f_X9_isFile X v1).bind fun t1 => (if ¬ t1 = 0 then (f_X10_isWord X v2).bind fun t2 => (if ¬ t2 = 0 then b_X10_write_50 X v1 v2 else (if v2 = -2 then b_X10_write_50 X v1 v2 else (if v2 = -3 then b_X10_write_50 X v1 v2 else some (some 2, 0, X)))) else some (some 1, 0, X))
def lb_X11_takesAct_12 (rec12 : JX → Int32 → Option JX) (X : JX) (v2 : Int32) : Option JX := (if (X (0) 30) ≤ v2 then some X else (if okI (v2 + (1)) 60 = true then (if okI v2 60 = true then nX (pX X (25) (upd (X (25)) v2.toNatClampNeg (X (25) (v2 + (1)).toNatClampNeg))) fun X2 => (if okI (v2 + (1)) 60 = true then (if okI v2 60 = true then nX (pX X2 (26) (upd (X2 (26)) v2.toNatClampNeg (X2 (26) (v2 + (1)).toNatClampNeg))) fun X3 => (if okI (v2 + (1)) 60 = true then (if okI v2 60 = true then nX (pX X3 (27) (upd (X3 (27)) v2.toNatClampNeg (vp_nar .boolean (X3 (27) (v2 + (1)).toNatClampNeg)))) fun X4 => nV (v2 + 1) fun t5 => rec12 X4 t5 else none) else none) else none) else none) else none) else none))
def l_X11_takesAct_12 : JX → Int32 → Option JX := loop2 (lb_X11_takesAct_12 ) 1000
def f_X11_takesAct (X : JX) (v1 : Int32) : Option JX := nX (pX X (0) (upd (X (0)) 30 ((X (0) 30) - (1)))) fun X1 => l_X11_takesAct_12 X1 v1
def b_X11_isBelow_31 (rec10 : Int32 → Int32 → Option Int32) (X : JX) (v2 : Int32) (v4 : Int32) (s0 : Int32) : Option Int32 := (if okI v4 60 = true then nV (X (3) v4.toNatClampNeg) fun t2 => rec10 s0 t2 else none)
def lb_X11_isBelow_10 (X : JX) (v2 : Int32) (rec10 : Int32 → Int32 → Option Int32) (v3 : Int32) (v4 : Int32) : Option Int32 := (if v4 = -1 then (if okB v3 = true then some v3 else none) else (if ¬ v3 = 0 then b_X11_isBelow_31 rec10 X v2 v4 (1) else (if ¬ v4 = v2 then b_X11_isBelow_31 rec10 X v2 v4 (0) else b_X11_isBelow_31 rec10 X v2 v4 (1))))
def l_X11_isBelow_10 (X : JX) (v2 : Int32) : Int32 → Int32 → Option Int32 := loop2 (lb_X11_isBelow_10 X v2) 1000
def f_X11_isBelow (X : JX) (v1 : Int32) (v2 : Int32) : Option Int32 := (if okI v1 60 = true then nV (X (3) v1.toNatClampNeg) fun t1 => l_X11_isBelow_10 X v2 (0) t1 else none)
def b_X11_over_40 (rec4 : Int32 → Int32 → Option Int32) (X : JX) (v1 : Int32) (v3 : Int32) (s0 : Int32) : Option Int32 := nV (v3 + 1) fun t3 => rec4 s0 t3
def lb_X11_over_4 (X : JX) (v1 : Int32) (rec4 : Int32 → Int32 → Option Int32) (v2 : Int32) (v3 : Int32) : Option Int32 := (if (X (0) 12) ≤ v3 then some v2 else (if okI v1 60 = true then (if (X (1) v1.toNatClampNeg) = 0 then some v2 else (if okI v3 4 = true then (f_X11_isBelow X v1 (X (10) v3.toNatClampNeg)).bind fun t2 => (if t2 = 0 then b_X11_over_40 rec4 X v1 v3 v2 else b_X11_over_40 rec4 X v1 v3 v3) else none)) else none))
def l_X11_over_4 (X : JX) (v1 : Int32) : Int32 → Int32 → Option Int32 := loop2 (lb_X11_over_4 X v1) 1000
def f_X11_over (X : JX) (v1 : Int32) : Option Int32 := nV (-1) fun t1 => l_X11_over_4 X v1 t1 (0)
def b_X11_rootAt_27 (rec4 : Int32 → Int32 → Option Int32) (X : JX) (v1 : Int32) (v3 : Int32) (s0 : Int32) : Option Int32 := nV (v3 + 1) fun t2 => rec4 s0 t2
def lb_X11_rootAt_4 (X : JX) (v1 : Int32) (rec4 : Int32 → Int32 → Option Int32) (v2 : Int32) (v3 : Int32) : Option Int32 := (if (X (0) 12) ≤ v3 then some v2 else (if okI v3 4 = true then (if ¬ (X (10) v3.toNatClampNeg) = v1 then b_X11_rootAt_27 rec4 X v1 v3 v2 else b_X11_rootAt_27 rec4 X v1 v3 v3) else none))
def l_X11_rootAt_4 (X : JX) (v1 : Int32) : Int32 → Int32 → Option Int32 := loop2 (lb_X11_rootAt_4 X v1) 1000
def f_X11_rootAt (X : JX) (v1 : Int32) : Option Int32 := nV (-1) fun t1 => l_X11_rootAt_4 X v1 t1 (0)
def b_X11_liesBelow_70 (rec23 : Int32 → Int32 → Option Int32) (X : JX) (v2 : Int32) (v4 : Int32) (s0 : Int32) : Option Int32 := nV (v4 + 1) fun t2 => rec23 s0 t2
def lb_X11_liesBelow_23 (X : JX) (v2 : Int32) (rec23 : Int32 → Int32 → Option Int32) (v3 : Int32) (v4 : Int32) : Option Int32 := (if 60 ≤ v4 then some (0) else (if v3 = -1 then some (0) else (if ¬ v3 = v2 then (f_X11_rootAt X v3).bind fun t1 => (if ¬ t1 = -1 then b_X11_liesBelow_70 rec23 X v2 v4 (-1) else (if okI v3 60 = true then (if (X (19) v3.toNatClampNeg) = 0 then b_X11_liesBelow_70 rec23 X v2 v4 (-1) else (if okI v3 60 = true then b_X11_liesBelow_70 rec23 X v2 v4 (X (20) v3.toNatClampNeg) else none)) else none)) else some (1))))
def l_X11_liesBelow_23 (X : JX) (v2 : Int32) : Int32 → Int32 → Option Int32 := loop2 (lb_X11_liesBelow_23 X v2) 1000
def b_X11_liesBelow_19 (X : JX) (v2 : Int32) (s0 : Int32) : Option Int32 := l_X11_liesBelow_23 X v2 s0 (0)
def f_X11_liesBelow (X : JX) (v1 : Int32) (v2 : Int32) : Option Int32 := (if okI v1 60 = true then (if (X (19) v1.toNatClampNeg) = 0 then b_X11_liesBelow_19 X v2 (-1) else (if okI v1 60 = true then b_X11_liesBelow_19 X v2 (X (20) v1.toNatClampNeg) else none)) else none)
def b_X11_kills_39 (rec2 : JX → Int32 → Option JX) (X : JX) (v1 : Int32) (v2 : Int32) (s0 : Int32) (s1 : Int32) : Option JX := (if okI s1 600 = true then nX (pX X (30) (upd (X (30)) s1.toNatClampNeg (vp_nar .boolean s0))) fun X1 => nV (v2 + 1) fun t2 => rec2 X1 t2 else none)
def lb_X11_kills_2 (v1 : Int32) (rec2 : JX → Int32 → Option JX) (X : JX) (v2 : Int32) : Option JX := (if (X (0) 37) ≤ v2 then some X else (if okI v2 600 = true then (if ¬ (X (30) v2.toNatClampNeg) = 0 then b_X11_kills_39 rec2 X v1 v2 (1) v2 else (if okI v2 600 = true then (if ¬ (X (29) v2.toNatClampNeg) = v1 then b_X11_kills_39 rec2 X v1 v2 (0) v2 else b_X11_kills_39 rec2 X v1 v2 (1) v2) else none)) else none))
def l_X11_kills_2 (v1 : Int32) : JX → Int32 → Option JX := loop2 (lb_X11_kills_2 v1) 1000
def f_X11_kills (X : JX) (v1 : Int32) : Option JX := l_X11_kills_2 v1 X (0)
def b_X11_forgets_88 (rec52 : JX → Int32 → Option JX) (X : JX) (v2 : Int32) : Option JX := nV (v2 + 1) fun t8 => rec52 X t8
def lb_X11_forgets_52 (rec52 : JX → Int32 → Option JX) (X : JX) (v2 : Int32) : Option JX := (if (X (0) 2) ≤ v2 then some X else (if okI v2 60 = true then (if (X (32) v2.toNatClampNeg) = 0 then b_X11_forgets_88 rec52 X v2 else (if okI v2 60 = true then nX (pX X (19) (upd (X (19)) v2.toNatClampNeg (vp_nar .boolean (0)))) fun X3 => (if okI v2 60 = true then nX (pX X3 (31) (upd (X3 (31)) v2.toNatClampNeg (vp_nar .boolean (0)))) fun X4 => (f_X11_kills X4 v2).bind fun X5 => b_X11_forgets_88 rec52 X5 v2 else none) else none)) else none))
def l_X11_forgets_52 : JX → Int32 → Option JX := loop2 (lb_X11_forgets_52 ) 1000
def b_X11_forgets_43 (rec2 : JX → Int32 → Option JX) (X : JX) (v1 : Int32) (v2 : Int32) (s0 : Int32) (s1 : Int32) : Option JX := (if okI s1 60 = true then nX (pX X (32) (upd (X (32)) s1.toNatClampNeg (vp_nar .boolean s0))) fun X6 => nV (v2 + 1) fun t7 => rec2 X6 t7 else none)
def lb_X11_forgets_2 (v1 : Int32) (rec2 : JX → Int32 → Option JX) (X : JX) (v2 : Int32) : Option JX := (if (X (0) 2) ≤ v2 then l_X11_forgets_52 X (0) else (if v2 = v1 then b_X11_forgets_43 rec2 X v1 v2 (1) v2 else (f_X11_rootAt X v1).bind fun t1 => (if ¬ t1 = -1 then b_X11_forgets_43 rec2 X v1 v2 (0) v2 else (f_X11_liesBelow X v2 v1).bind fun t2 => (if t2 = 0 then b_X11_forgets_43 rec2 X v1 v2 (0) v2 else b_X11_forgets_43 rec2 X v1 v2 (1) v2))))
def l_X11_forgets_2 (v1 : Int32) : JX → Int32 → Option JX := loop2 (lb_X11_forgets_2 v1) 1000
def f_X11_forgets (X : JX) (v1 : Int32) : Option JX := l_X11_forgets_2 v1 X (0)
def b_X11_adds_72 (X : JX) (v2 : Int32) (v3 : Int32) : Option JX := (if okI v3 60 = true then nX (pX X (26) (upd (X (26)) v3.toNatClampNeg v2)) fun X6 => some X6 else none)
def b_X11_adds_31 (rec5 : Int32 → Int32 → Option JX) (X : JX) (v1 : Int32) (v2 : Int32) (v4 : Int32) (s0 : Int32) : Option JX := nV (v4 + 1) fun t7 => rec5 s0 t7
def lb_X11_adds_5 (X : JX) (v1 : Int32) (v2 : Int32) (rec5 : Int32 → Int32 → Option JX) (v3 : Int32) (v4 : Int32) : Option JX := (if (X (0) 30) ≤ v4 then (if ¬ v3 = -1 then b_X11_adds_72 X v2 v3 else nV (X (0) 30) fun t2 => (if okI t2 60 = true then nX (pX X (25) (upd (X (25)) t2.toNatClampNeg v1)) fun X3 => (if okI t2 60 = true then nX (pX X3 (27) (upd (X3 (27)) t2.toNatClampNeg (vp_nar .boolean (0)))) fun X4 => nX (pX X4 (0) (upd (X4 (0)) 30 ((X4 (0) 30) + (1)))) fun X5 => b_X11_adds_72 X5 v2 t2 else none) else none)) else (if okI v4 60 = true then (if ¬ (X (25) v4.toNatClampNeg) = v1 then b_X11_adds_31 rec5 X v1 v2 v4 v3 else b_X11_adds_31 rec5 X v1 v2 v4 v4) else none))
def l_X11_adds_5 (X : JX) (v1 : Int32) (v2 : Int32) : Int32 → Int32 → Option JX := loop2 (lb_X11_adds_5 X v1 v2) 1000
def f_X11_adds (X : JX) (v1 : Int32) (v2 : Int32) : Option JX := nV (-1) fun t1 => l_X11_adds_5 X v1 v2 t1 (0)
def f_X11_places (X : JX) (v1 : Int32) : Option JX := (if okI v1 60 = true then nX (pX X (19) (upd (X (19)) v1.toNatClampNeg (vp_nar .boolean (1)))) fun X1 => (if okI v1 60 = true then (if okI v1 60 = true then nX (pX X1 (20) (upd (X1 (20)) v1.toNatClampNeg (X1 (3) v1.toNatClampNeg))) fun X2 => (if okI v1 60 = true then (if okI v1 60 = true then nX (pX X2 (21) (upd (X2 (21)) v1.toNatClampNeg (vp_nar .char (X2 (4) v1.toNatClampNeg)))) fun X3 => some X3 else none) else none) else none) else none) else none)
def b_X11_takesWords_199 (rec103 : JX → Int32 → Int32 → Option JX) (X : JX) (v1 : Int32) (v3 : Int32) (v5 : Int32) (s0 : Int32) (s1 : Int32) : Option JX := nV (s1 + s0) fun t10 => nV (v5 + 1) fun t11 => rec103 X t10 t11
def b_X11_takesWords_169 (rec103 : JX → Int32 → Int32 → Option JX) (X : JX) (v1 : Int32) (v3 : Int32) (v4 : Int32) (v5 : Int32) (v6 : Int32) : Option JX := (if ¬ v6 = -2 then (if ¬ v6 = -3 then b_X11_takesWords_199 rec103 X v1 v3 v5 (0) v4 else (if v4 ≤ 0 then b_X11_takesWords_199 rec103 X v1 v3 v5 (0) v4 else b_X11_takesWords_199 rec103 X v1 v3 v5 (-1) v4)) else b_X11_takesWords_199 rec103 X v1 v3 v5 (1) v4)
def lb_X11_takesWords_103 (v1 : Int32) (v3 : Int32) (rec103 : JX → Int32 → Int32 → Option JX) (X : JX) (v4 : Int32) (v5 : Int32) : Option JX := (if v3 ≤ v5 then some X else (if okI (((20) * v1) + v5) 1200 = true then nV (X (7) (((20) * v1) + v5).toNatClampNeg) fun t5 => (if t5 < 0 then b_X11_takesWords_169 rec103 X v1 v3 v4 v5 t5 else (if (X (0) 28) < v4 then b_X11_takesWords_169 rec103 X v1 v3 v4 v5 t5 else (if (X (0) 29) ≤ (X (0) 44) then b_X11_takesWords_169 rec103 X v1 v3 v4 v5 t5 else (if okI (X (0) 44) 20 = true then nX (pX X (33) (upd (X (33)) (X (0) 44).toNatClampNeg t5)) fun X6 => nX (pX X6 (0) (upd (X6 (0)) 44 ((X6 (0) 44) + (1)))) fun X7 => b_X11_takesWords_169 rec103 X7 v1 v3 v4 v5 t5 else none)))) else none))
def l_X11_takesWords_103 (v1 : Int32) (v3 : Int32) : JX → Int32 → Int32 → Option JX := loop3 (lb_X11_takesWords_103 v1 v3) 1000
def b_X11_takesWords_84 (rec19 : Int32 → Int32 → Int32 → Option JX) (X : JX) (v1 : Int32) (v3 : Int32) (v4 : Int32) (s0 : Int32) (s1 : Int32) : Option JX := nV (s1 + s0) fun t8 => nV (v4 + (-1)) fun t9 => rec19 t8 v3 t9
def b_X11_takesWords_55 (rec19 : Int32 → Int32 → Int32 → Option JX) (X : JX) (v1 : Int32) (v2 : Int32) (v4 : Int32) (v5 : Int32) (s0 : Int32) : Option JX := (if ¬ v5 = -3 then (if ¬ v5 = -2 then b_X11_takesWords_84 rec19 X v1 s0 v4 (0) v2 else (if v2 ≤ 0 then b_X11_takesWords_84 rec19 X v1 s0 v4 (0) v2 else b_X11_takesWords_84 rec19 X v1 s0 v4 (-1) v2)) else b_X11_takesWords_84 rec19 X v1 s0 v4 (1) v2)
def lb_X11_takesWords_19 (X : JX) (v1 : Int32) (rec19 : Int32 → Int32 → Int32 → Option JX) (v2 : Int32) (v3 : Int32) (v4 : Int32) : Option JX := (if v4 < 0 then nX (pX X (0) (upd (X (0)) 44 (0))) fun X3 => l_X11_takesWords_103 v1 v3 X3 (0) (0) else (if okI (((20) * v1) + v4) 1200 = true then nV (X (7) (((20) * v1) + v4).toNatClampNeg) fun t4 => (if ¬ t4 = -2 then b_X11_takesWords_55 rec19 X v1 v2 v4 t4 v3 else (if ¬ v2 = 0 then b_X11_takesWords_55 rec19 X v1 v2 v4 t4 v3 else b_X11_takesWords_55 rec19 X v1 v2 v4 t4 v4)) else none))
def l_X11_takesWords_19 (X : JX) (v1 : Int32) : Int32 → Int32 → Int32 → Option JX := loop3 (lb_X11_takesWords_19 X v1) 1000
def f_X11_takesWords (X : JX) (v1 : Int32) : Option JX := (if okI v1 60 = true then nV (X (6) v1.toNatClampNeg) fun t1 => (if okI v1 60 = true then nV ((X (6) v1.toNatClampNeg) - (1)) fun t2 => l_X11_takesWords_19 X v1 (0) t1 t2 else none) else none)
def lb_X11_reads_29 (v1 : Int32) (rec29 : JX → Int32 → Option JX) (X : JX) (v2 : Int32) : Option JX := (if (X (0) 44) ≤ v2 then (f_X11_kills X v1).bind fun X4 => (if okI v1 60 = true then nX (pX X4 (31) (upd (X4 (31)) v1.toNatClampNeg (vp_nar .boolean (1)))) fun X5 => some X5 else none) else (if okI v2 20 = true then (if okI (((20) * v1) + v2) 1200 = true then nX (pX X (24) (upd (X (24)) (((20) * v1) + v2).toNatClampNeg (X (33) v2.toNatClampNeg))) fun X6 => nV (v2 + 1) fun t7 => rec29 X6 t7 else none) else none))
def l_X11_reads_29 (v1 : Int32) : JX → Int32 → Option JX := loop2 (lb_X11_reads_29 v1) 1000
def f_X11_reads (X : JX) (v1 : Int32) : Option JX := (f_X11_takesWords X v1).bind fun X1 => (if okI v1 60 = true then (if okI v1 60 = true then nX (pX X1 (22) (upd (X1 (22)) v1.toNatClampNeg (X1 (5) v1.toNatClampNeg))) fun X2 => (if okI v1 60 = true then nX (pX X2 (23) (upd (X2 (23)) v1.toNatClampNeg (X2 (0) 44))) fun X3 => l_X11_reads_29 v1 X3 (0) else none) else none) else none)
def b_X11_acts_179 (X : JX) (v2 : Int32) (s0 : Int32) : Option JX := (f_X11_places X v2).bind fun X11 => (if ¬ s0 = 0 then some X11 else (f_X11_reads X11 v2).bind fun X12 => some X12)
def b_X11_acts_111 (rec74 : JX → Int32 → Option JX) (X : JX) (v2 : Int32) (v4 : Int32) : Option JX := nV (v4 + 1) fun t14 => rec74 X t14
def lb_X11_acts_74 (v2 : Int32) (rec74 : JX → Int32 → Option JX) (X : JX) (v4 : Int32) : Option JX := (if (X (0) 2) ≤ v4 then some X else (if okI v4 60 = true then (if (X (1) v4.toNatClampNeg) = 0 then b_X11_acts_111 rec74 X v2 v4 else (if okI v4 60 = true then (if ¬ (X (3) v4.toNatClampNeg) = v2 then b_X11_acts_111 rec74 X v2 v4 else (f_X11_adds X v4 (1)).bind fun X13 => b_X11_acts_111 rec74 X13 v2 v4) else none)) else none))
def l_X11_acts_74 (v2 : Int32) : JX → Int32 → Option JX := loop2 (lb_X11_acts_74 v2) 1000
def f_X11_acts (X : JX) (v1 : Int32) : Option JX := (if okI v1 60 = true then nV (X (25) v1.toNatClampNeg) fun t1 => (if okI v1 60 = true then nV (X (26) v1.toNatClampNeg) fun t2 => (f_X11_takesAct X v1).bind fun X3 => (f_X11_over X3 t1).bind fun t4 => (if ¬ t4 = -1 then (if ¬ t2 = 2 then (if okI t1 60 = true then (if (X3 (2) t1.toNatClampNeg) = 0 then (if okI t1 60 = true then (if (X3 (8) t1.toNatClampNeg) = 0 then (if okI t1 60 = true then (if (X3 (19) t1.toNatClampNeg) = 0 then b_X11_acts_179 X3 t1 (0) else (if okI t1 60 = true then (if okI t1 60 = true then (if ¬ (X3 (22) t1.toNatClampNeg) = (X3 (5) t1.toNatClampNeg) then b_X11_acts_179 X3 t1 (0) else b_X11_acts_179 X3 t1 (1)) else none) else none)) else none) else (f_X11_adds X3 t1 (1)).bind fun X5 => (if okI ((X5 (0) 30) - (1)) 60 = true then nX (pX X5 (27) (upd (X5 (27)) ((X5 (0) 30) - (1)).toNatClampNeg (vp_nar .boolean (1)))) fun X6 => some X6 else none)) else none) else (f_X11_places X3 t1).bind fun X7 => (if okI t1 60 = true then nX (pX X7 (22) (upd (X7 (22)) t1.toNatClampNeg (0))) fun X8 => l_X11_acts_74 t1 X8 (0) else none)) else none) else (f_X11_adds X3 t1 (1)).bind fun X9 => some X9) else (f_X11_forgets X3 t1).bind fun X10 => some X10) else none) else none)
def f_X11_acts_ (X : JX) : Option (Int32 × JX) := nX (pX X (0) (upd (X (0)) 0 (0))) fun X1 => some ((X1 (0) 30), X1)
def f_X11_in (X : JX) (v0 : Int32) (v1 : Int32) (v2 : Int32) : Option Int32 := (if v0 < v1 then some (0) else (if v2 < v0 then some (0) else some (1)))
def f_X11_fails (X : JX) (v1 : Int32) : Option (Int32 × JX) := nX (pX X (0) (upd (X (0)) 0 v1)) fun X1 => some (0, X1)
def f_X11_areWords (X : JX) (v1 : Int32) (v2 : Int32) : Option Int32 := (f_X11_in X v1 (0) (99)).bind fun t1 => (if t1 = 0 then some (0) else (f_X11_in X v2 (-1) (99)).bind fun t2 => (if t2 = 0 then some (0) else some (1)))
def b_X11_often_38 (rec5 : Int32 → Int32 → Option Int32) (X : JX) (v1 : Int32) (v2 : Int32) (v4 : Int32) (s0 : Int32) (s1 : Int32) : Option Int32 := nV (s1 + s0) fun t1 => nV (v4 + 1) fun t2 => rec5 t1 t2
def lb_X11_often_5 (X : JX) (v1 : Int32) (v2 : Int32) (rec5 : Int32 → Int32 → Option Int32) (v3 : Int32) (v4 : Int32) : Option Int32 := (if okI v1 60 = true then (if (X (23) v1.toNatClampNeg) ≤ v4 then some v3 else (if okI (((20) * v1) + v4) 1200 = true then (if ¬ (X (24) (((20) * v1) + v4).toNatClampNeg) = v2 then b_X11_often_38 rec5 X v1 v2 v4 (0) v3 else b_X11_often_38 rec5 X v1 v2 v4 (1) v3) else none)) else none)
def l_X11_often_5 (X : JX) (v1 : Int32) (v2 : Int32) : Int32 → Int32 → Option Int32 := loop2 (lb_X11_often_5 X v1 v2) 1000
def f_X11_often (X : JX) (v1 : Int32) (v2 : Int32) : Option Int32 := l_X11_often_5 X v1 v2 (0) (0)
def b_X11_has_41 (X : JX) : Option Int32 := some (1)
def f_X11_has (X : JX) (v1 : Int32) (v2 : Int32) (v3 : Int32) : Option Int32 := (if okI v1 60 = true then (if (X (19) v1.toNatClampNeg) = 0 then some (0) else (if okI v1 60 = true then (if ¬ (X (2) v1.toNatClampNeg) = 0 then some (0) else (f_X11_often X v1 v2).bind fun t1 => (if t1 ≤ 0 then some (0) else (if v3 = -1 then b_X11_has_41 X else (f_X11_often X v1 v3).bind fun t2 => (if t2 ≤ 0 then some (0) else b_X11_has_41 X)))) else none)) else none)
def b_X11_mayReadAt_35 (rec5 : Int32 → Int32 → Option Int32) (X : JX) (v1 : Int32) (v4 : Int32) (s0 : Int32) : Option Int32 := (if okI v4 60 = true then nV (X (3) v4.toNatClampNeg) fun t1 => rec5 s0 t1 else none)
def lb_X11_mayReadAt_5 (X : JX) (v1 : Int32) (rec5 : Int32 → Int32 → Option Int32) (v3 : Int32) (v4 : Int32) : Option Int32 := (if v4 = -1 then (if okB v3 = true then some v3 else none) else (if v3 = 0 then b_X11_mayReadAt_35 rec5 X v1 v4 (0) else (if okI v4 60 = true then (if ¬ (((X (9) v4.toNatClampNeg) >>> (v1 &&& 31)) &&& (1)) = 1 then b_X11_mayReadAt_35 rec5 X v1 v4 (0) else b_X11_mayReadAt_35 rec5 X v1 v4 (1)) else none)))
def l_X11_mayReadAt_5 (X : JX) (v1 : Int32) : Int32 → Int32 → Option Int32 := loop2 (lb_X11_mayReadAt_5 X v1) 1000
def f_X11_mayReadAt (X : JX) (v1 : Int32) (v2 : Int32) : Option Int32 := l_X11_mayReadAt_5 X v1 (1) v2
def b_X11_isAnswer_36 (X : JX) (v1 : Int32) (v2 : Int32) : Option Int32 := (f_X11_mayReadAt X v2 v1).bind fun t3 => (if t3 = 0 then some (0) else some (1))
def f_X11_isAnswer (X : JX) (v1 : Int32) (v2 : Int32) (v3 : Int32) (v4 : Int32) (v5 : Int32) : Option Int32 := (if okI v1 60 = true then (if (X (1) v1.toNatClampNeg) = 0 then some (0) else (f_X11_has X v1 v3 v4).bind fun t1 => (if t1 = 0 then some (0) else (if v5 = -1 then b_X11_isAnswer_36 X v1 v2 else (f_X11_liesBelow X v1 v5).bind fun t2 => (if t2 = 0 then some (0) else b_X11_isAnswer_36 X v1 v2)))) else none)
def b_X11_score_87 (rec30 : Int32 → Int32 → Option Int32) (X : JX) (v1 : Int32) (v2 : Int32) (v3 : Int32) (v4 : Int32) (v6 : Int32) (s0 : Int32) : Option Int32 := nV (v6 + 1) fun t4 => rec30 s0 t4
def lb_X11_score_30 (X : JX) (v1 : Int32) (v2 : Int32) (v3 : Int32) (v4 : Int32) (rec30 : Int32 → Int32 → Option Int32) (v5 : Int32) (v6 : Int32) : Option Int32 := (if okI v1 60 = true then (if (X (23) v1.toNatClampNeg) ≤ (v6 + (1)) then (if v5 = 0 then some v4 else some (v4 + (10))) else (if ¬ v5 = 0 then b_X11_score_87 rec30 X v1 v2 v3 v4 v6 (1) else (if okI (((20) * v1) + v6) 1200 = true then (if ¬ (X (24) (((20) * v1) + v6).toNatClampNeg) = v2 then b_X11_score_87 rec30 X v1 v2 v3 v4 v6 (0) else (if okI ((((20) * v1) + v6) + (1)) 1200 = true then (if ¬ (X (24) ((((20) * v1) + v6) + (1)).toNatClampNeg) = v3 then b_X11_score_87 rec30 X v1 v2 v3 v4 v6 (0) else b_X11_score_87 rec30 X v1 v2 v3 v4 v6 (1)) else none)) else none))) else none)
def l_X11_score_30 (X : JX) (v1 : Int32) (v2 : Int32) (v3 : Int32) (v4 : Int32) : Int32 → Int32 → Option Int32 := loop2 (lb_X11_score_30 X v1 v2 v3 v4) 1000
def b_X11_score_21 (X : JX) (v1 : Int32) (v2 : Int32) (v3 : Int32) (s0 : Int32) (s1 : Int32) : Option Int32 := nV (s1 + s0) fun t3 => l_X11_score_30 X v1 v2 v3 t3 (0) (0)
def f_X11_score (X : JX) (v1 : Int32) (v2 : Int32) (v3 : Int32) : Option Int32 := (f_X11_often X v1 v2).bind fun t1 => (if ¬ v3 = -1 then (f_X11_often X v1 v3).bind fun t2 => b_X11_score_21 X v1 v2 v3 t2 t1 else b_X11_score_21 X v1 v2 v3 (0) t1)
def b_X11_answer_189 (rec45 : Int32 → Option (Int32 × JX)) (X : JX) (v1 : Int32) (v2 : Int32) (v3 : Int32) (v4 : Int32) (v5 : Int32) : Option (Int32 × JX) := nV (v5 + 1) fun t8 => rec45 t8
def b_X11_answer_164 (rec45 : Int32 → Option (Int32 × JX)) (rec83 : Int32 → Int32 → Option (Int32 × JX)) (X : JX) (v1 : Int32) (v2 : Int32) (v3 : Int32) (v4 : Int32) (v5 : Int32) (v7 : Int32) (v8 : Int32) (s0 : Int32) (s1 : Int32) : Option (Int32 × JX) := nV (s1 + s0) fun t12 => nV (v8 + 1) fun t13 => rec83 t12 t13
def b_X11_answer_117 (rec45 : Int32 → Option (Int32 × JX)) (rec83 : Int32 → Int32 → Option (Int32 × JX)) (X : JX) (v1 : Int32) (v2 : Int32) (v3 : Int32) (v4 : Int32) (v5 : Int32) (v6 : Int32) (v7 : Int32) (v8 : Int32) (s0 : Int32) : Option (Int32 × JX) := (if s0 = 0 then b_X11_answer_164 rec45 rec83 X v1 v2 v3 v4 v5 v7 v8 (0) v6 else (f_X11_score X v8 v2 v3).bind fun t10 => (if v7 < t10 then b_X11_answer_164 rec45 rec83 X v1 v2 v3 v4 v5 v7 v8 (1) v6 else (f_X11_score X v8 v2 v3).bind fun t11 => (if ¬ t11 = v7 then b_X11_answer_164 rec45 rec83 X v1 v2 v3 v4 v5 v7 v8 (0) v6 else (if v5 ≤ v8 then b_X11_answer_164 rec45 rec83 X v1 v2 v3 v4 v5 v7 v8 (0) v6 else b_X11_answer_164 rec45 rec83 X v1 v2 v3 v4 v5 v7 v8 (1) v6))))
def lb_X11_answer_83 (rec45 : Int32 → Option (Int32 × JX)) (X : JX) (v1 : Int32) (v2 : Int32) (v3 : Int32) (v4 : Int32) (v5 : Int32) (v7 : Int32) (rec83 : Int32 → Int32 → Option (Int32 × JX)) (v6 : Int32) (v8 : Int32) : Option (Int32 × JX) := (if (X (0) 2) ≤ v8 then (if ¬ v6 = v4 then b_X11_answer_189 rec45 X v1 v2 v3 v4 v5 else some ((((100) * v7) + v5), X)) else (if v8 = v5 then b_X11_answer_117 rec45 rec83 X v1 v2 v3 v4 v5 v6 v7 v8 (0) else (f_X11_isAnswer X v8 v1 v2 v3 (-1)).bind fun t9 => (if t9 = 0 then b_X11_answer_117 rec45 rec83 X v1 v2 v3 v4 v5 v6 v7 v8 (0) else b_X11_answer_117 rec45 rec83 X v1 v2 v3 v4 v5 v6 v7 v8 (1))))
def l_X11_answer_83 (rec45 : Int32 → Option (Int32 × JX)) (X : JX) (v1 : Int32) (v2 : Int32) (v3 : Int32) (v4 : Int32) (v5 : Int32) (v7 : Int32) : Int32 → Int32 → Option (Int32 × JX) := loop2 (lb_X11_answer_83 rec45 X v1 v2 v3 v4 v5 v7) 1000
def lb_X11_answer_45 (X : JX) (v1 : Int32) (v2 : Int32) (v3 : Int32) (v4 : Int32) (rec45 : Int32 → Option (Int32 × JX)) (v5 : Int32) : Option (Int32 × JX) := (if (X (0) 2) ≤ v5 then (f_X11_fails X (1)).bind fun t5 => some (t5.1, t5.2) else (f_X11_isAnswer X v5 v1 v2 v3 (-1)).bind fun t6 => (if t6 = 0 then b_X11_answer_189 rec45 X v1 v2 v3 v4 v5 else (f_X11_score X v5 v2 v3).bind fun t7 => l_X11_answer_83 rec45 X v1 v2 v3 v4 v5 t7 (0) (0)))
def l_X11_answer_45 (X : JX) (v1 : Int32) (v2 : Int32) (v3 : Int32) (v4 : Int32) : Int32 → Option (Int32 × JX) := loop1 (lb_X11_answer_45 X v1 v2 v3 v4) 1000
def b_X11_answer_30 (X : JX) (v1 : Int32) (v2 : Int32) (v3 : Int32) (v4 : Int32) (s0 : Int32) : Option (Int32 × JX) := nX (pX X (0) (upd (X (0)) 0 s0)) fun X4 => (if (X4 (0) 0) ≤ 0 then l_X11_answer_45 X4 v1 v2 v3 v4 (0) else some (0, X4))
def f_X11_answer (X : JX) (v1 : Int32) (v2 : Int32) (v3 : Int32) (v4 : Int32) : Option (Int32 × JX) := (f_X11_in X v1 (0) (3)).bind fun t1 => (if ¬ t1 = 0 then (f_X11_areWords X v2 v3).bind fun t2 => (if t2 = 0 then b_X11_answer_30 X v1 v2 v3 v4 (2) else b_X11_answer_30 X v1 v2 v3 v4 (0)) else (f_X11_fails X (1)).bind fun t3 => some (t3.1, t3.2))
def b_X11_canAsk_55 (X : JX) (s0 : Int32) : Option (Int32 × JX) := nX (pX X (0) (upd (X (0)) 0 s0)) fun X4 => (if ¬ (X4 (0) 0) = 0 then some (0, X4) else some (1, X4))
def b_X11_canAsk_29 (X : JX) (v2 : Int32) (v3 : Int32) (s0 : Int32) : Option (Int32 × JX) := (if ¬ s0 = 0 then (f_X11_areWords X v2 v3).bind fun t3 => (if t3 = 0 then b_X11_canAsk_55 X (2) else b_X11_canAsk_55 X (0)) else b_X11_canAsk_55 X (1))
def f_X11_canAsk (X : JX) (v1 : Int32) (v2 : Int32) (v3 : Int32) (v4 : Int32) : Option (Int32 × JX) := (f_X11_in X v1 (0) (3)).bind fun t1 => (if t1 = 0 then b_X11_canAsk_29 X v2 v3 (0) else (f_X11_in X v4 (-1) ((X (0) 2) - (1))).bind fun t2 => (if t2 = 0 then b_X11_canAsk_29 X v2 v3 (0) else b_X11_canAsk_29 X v2 v3 (1)))
def b_X11_answers_52 (rec17 : Int32 → Int32 → Option (Int32 × JX)) (X : JX) (v1 : Int32) (v2 : Int32) (v3 : Int32) (v4 : Int32) (v5 : Int32) (v7 : Int32) (s0 : Int32) (s1 : Int32) : Option (Int32 × JX) := nV (s1 + s0) fun t3 => nV (v7 + 1) fun t4 => rec17 t3 t4
def lb_X11_answers_17 (X : JX) (v1 : Int32) (v2 : Int32) (v3 : Int32) (v4 : Int32) (v5 : Int32) (rec17 : Int32 → Int32 → Option (Int32 × JX)) (v6 : Int32) (v7 : Int32) : Option (Int32 × JX) := (if (X (0) 2) ≤ v7 then some (v6, X) else (if v5 = 0 then some (v6, X) else (f_X11_isAnswer X v7 v1 v2 v3 v4).bind fun t2 => (if t2 = 0 then b_X11_answers_52 rec17 X v1 v2 v3 v4 v5 v7 (0) v6 else b_X11_answers_52 rec17 X v1 v2 v3 v4 v5 v7 (1) v6)))
def l_X11_answers_17 (X : JX) (v1 : Int32) (v2 : Int32) (v3 : Int32) (v4 : Int32) (v5 : Int32) : Int32 → Int32 → Option (Int32 × JX) := loop2 (lb_X11_answers_17 X v1 v2 v3 v4 v5) 1000
def f_X11_answers (X : JX) (v1 : Int32) (v2 : Int32) (v3 : Int32) (v4 : Int32) : Option (Int32 × JX) := (f_X11_canAsk X v1 v2 v3 v4).bind fun t1 => l_X11_answers_17 t1.2 v1 v2 v3 v4 t1.1 (0) (0)
def b_X11_answersAnew_227 (rec17 : JX → Int32 → Int32 → Option (Int32 × JX)) (X : JX) (v1 : Int32) (v2 : Int32) (v3 : Int32) (v4 : Int32) (v5 : Int32) (v6 : Int32) (v7 : Int32) : Option (Int32 × JX) := nV (v7 + 1) fun t7 => rec17 X v6 t7
def b_X11_answersAnew_224 (rec17 : JX → Int32 → Int32 → Option (Int32 × JX)) (X : JX) (v1 : Int32) (v2 : Int32) (v3 : Int32) (v4 : Int32) (v5 : Int32) (v7 : Int32) (s0 : Int32) (s1 : Int32) : Option (Int32 × JX) := nV (s1 + s0) fun t8 => b_X11_answersAnew_227 rec17 X v1 v2 v3 v4 v5 t8 v7
def b_X11_answersAnew_199 (rec17 : JX → Int32 → Int32 → Option (Int32 × JX)) (rec146 : Int32 → Int32 → Int32 → Option (Int32 × JX)) (X : JX) (v1 : Int32) (v2 : Int32) (v3 : Int32) (v4 : Int32) (v5 : Int32) (v6 : Int32) (v7 : Int32) (v10 : Int32) (v12 : Int32) (s0 : Int32) : Option (Int32 × JX) := nV (v12 + 1) fun t9 => rec146 v10 s0 t9
def b_X11_answersAnew_176 (rec17 : JX → Int32 → Int32 → Option (Int32 × JX)) (rec146 : Int32 → Int32 → Int32 → Option (Int32 × JX)) (X : JX) (v1 : Int32) (v2 : Int32) (v3 : Int32) (v4 : Int32) (v5 : Int32) (v6 : Int32) (v7 : Int32) (v11 : Int32) (v12 : Int32) (s0 : Int32) : Option (Int32 × JX) := (if ¬ v11 = 0 then b_X11_answersAnew_199 rec17 rec146 X v1 v2 v3 v4 v5 v6 v7 s0 v12 (1) else (if okI v12 20 = true then (if ¬ (X (33) v12.toNatClampNeg) = v3 then b_X11_answersAnew_199 rec17 rec146 X v1 v2 v3 v4 v5 v6 v7 s0 v12 (0) else b_X11_answersAnew_199 rec17 rec146 X v1 v2 v3 v4 v5 v6 v7 s0 v12 (1)) else none))
def lb_X11_answersAnew_146 (rec17 : JX → Int32 → Int32 → Option (Int32 × JX)) (X : JX) (v1 : Int32) (v2 : Int32) (v3 : Int32) (v4 : Int32) (v5 : Int32) (v6 : Int32) (v7 : Int32) (rec146 : Int32 → Int32 → Int32 → Option (Int32 × JX)) (v10 : Int32) (v11 : Int32) (v12 : Int32) : Option (Int32 × JX) := (if (X (0) 44) ≤ v12 then (if v10 = 0 then b_X11_answersAnew_224 rec17 X v1 v2 v3 v4 v5 v7 (0) v6 else (if v11 = 0 then b_X11_answersAnew_224 rec17 X v1 v2 v3 v4 v5 v7 (0) v6 else b_X11_answersAnew_224 rec17 X v1 v2 v3 v4 v5 v7 (1) v6)) else (if ¬ v10 = 0 then b_X11_answersAnew_176 rec17 rec146 X v1 v2 v3 v4 v5 v6 v7 v11 v12 (1) else (if okI v12 20 = true then (if ¬ (X (33) v12.toNatClampNeg) = v2 then b_X11_answersAnew_176 rec17 rec146 X v1 v2 v3 v4 v5 v6 v7 v11 v12 (0) else b_X11_answersAnew_176 rec17 rec146 X v1 v2 v3 v4 v5 v6 v7 v11 v12 (1)) else none)))
def l_X11_answersAnew_146 (rec17 : JX → Int32 → Int32 → Option (Int32 × JX)) (X : JX) (v1 : Int32) (v2 : Int32) (v3 : Int32) (v4 : Int32) (v5 : Int32) (v6 : Int32) (v7 : Int32) : Int32 → Int32 → Int32 → Option (Int32 × JX) := loop3 (lb_X11_answersAnew_146 rec17 X v1 v2 v3 v4 v5 v6 v7) 1000
def b_X11_answersAnew_141 (rec17 : JX → Int32 → Int32 → Option (Int32 × JX)) (X : JX) (v1 : Int32) (v2 : Int32) (v3 : Int32) (v4 : Int32) (v5 : Int32) (v6 : Int32) (v7 : Int32) (v10 : Int32) (s0 : Int32) : Option (Int32 × JX) := l_X11_answersAnew_146 rec17 X v1 v2 v3 v4 v5 v6 v7 v10 s0 (0)
def b_X11_answersAnew_105 (rec17 : JX → Int32 → Int32 → Option (Int32 × JX)) (X : JX) (v1 : Int32) (v2 : Int32) (v3 : Int32) (v4 : Int32) (v5 : Int32) (v6 : Int32) (v7 : Int32) (s0 : Int32) : Option (Int32 × JX) := (if s0 = 0 then b_X11_answersAnew_227 rec17 X v1 v2 v3 v4 v5 v6 v7 else (f_X11_mayReadAt X v1 v7).bind fun t5 => (if t5 = 0 then b_X11_answersAnew_227 rec17 X v1 v2 v3 v4 v5 v6 v7 else (f_X11_takesWords X v7).bind fun X6 => (if ¬ v3 = -1 then b_X11_answersAnew_141 rec17 X6 v1 v2 v3 v4 v5 v6 v7 (0) (0) else b_X11_answersAnew_141 rec17 X6 v1 v2 v3 v4 v5 v6 v7 (0) (1))))
def lb_X11_answersAnew_17 (v1 : Int32) (v2 : Int32) (v3 : Int32) (v4 : Int32) (v5 : Int32) (rec17 : JX → Int32 → Int32 → Option (Int32 × JX)) (X : JX) (v6 : Int32) (v7 : Int32) : Option (Int32 × JX) := (if (X (0) 2) ≤ v7 then some (v6, X) else (if v5 = 0 then some (v6, X) else (f_X11_over X v7).bind fun t2 => (if t2 = -1 then b_X11_answersAnew_105 rec17 X v1 v2 v3 v4 v5 v6 v7 (0) else (if okI v7 60 = true then (if ¬ (X (2) v7.toNatClampNeg) = 0 then b_X11_answersAnew_105 rec17 X v1 v2 v3 v4 v5 v6 v7 (0) else (if v4 = -1 then b_X11_answersAnew_105 rec17 X v1 v2 v3 v4 v5 v6 v7 (1) else (f_X11_isBelow X v7 v4).bind fun t3 => (if t3 = 0 then b_X11_answersAnew_105 rec17 X v1 v2 v3 v4 v5 v6 v7 (0) else (if okI t2 4 = true then (if v4 = (X (10) t2.toNatClampNeg) then b_X11_answersAnew_105 rec17 X v1 v2 v3 v4 v5 v6 v7 (1) else (if okI t2 4 = true then (f_X11_isBelow X v4 (X (10) t2.toNatClampNeg)).bind fun t4 => (if t4 = 0 then b_X11_answersAnew_105 rec17 X v1 v2 v3 v4 v5 v6 v7 (0) else b_X11_answersAnew_105 rec17 X v1 v2 v3 v4 v5 v6 v7 (1)) else none)) else none)))) else none))))
def l_X11_answersAnew_17 (v1 : Int32) (v2 : Int32) (v3 : Int32) (v4 : Int32) (v5 : Int32) : JX → Int32 → Int32 → Option (Int32 × JX) := loop3 (lb_X11_answersAnew_17 v1 v2 v3 v4 v5) 1000
def f_X11_answersAnew (X : JX) (v1 : Int32) (v2 : Int32) (v3 : Int32) (v4 : Int32) : Option (Int32 × JX) := (f_X11_canAsk X v1 v2 v3 v4).bind fun t1 => l_X11_answersAnew_17 v1 v2 v3 v4 t1.1 t1.2 (0) (0)
def f_X11_battery (X : JX) (v1 : Int32) : Option (Int32 × JX) := nX (pX X (0) (upd (X (0)) 0 (0))) fun X1 => nV (X1 (0) 34) fun t2 => (if okB v1 = true then nX (pX X1 (0) (upd (X1 (0)) 34 v1)) fun X3 => (if okB t2 = true then some (t2, X3) else none) else none)
def lb_X11_beginsCrawl_31 (v1 : Int32) (rec31 : JX → Int32 → Option JX) (X : JX) (v2 : Int32) : Option JX := (if 60 ≤ v2 then some X else (if okI (((60) * v1) + v2) 240 = true then nX (pX X (18) (upd (X (18)) (((60) * v1) + v2).toNatClampNeg (vp_nar .boolean (0)))) fun X4 => nV (v2 + 1) fun t5 => rec31 X4 t5 else none))
def l_X11_beginsCrawl_31 (v1 : Int32) : JX → Int32 → Option JX := loop2 (lb_X11_beginsCrawl_31 v1) 1000
def f_X11_beginsCrawl (X : JX) (v1 : Int32) : Option JX := (if okI v1 4 = true then nX (pX X (15) (upd (X (15)) v1.toNatClampNeg (vp_nar .boolean (1)))) fun X1 => (if okI v1 4 = true then nX (pX X1 (16) (upd (X1 (16)) v1.toNatClampNeg (1))) fun X2 => (if okI v1 4 = true then (if okI ((60) * v1) 240 = true then nX (pX X2 (17) (upd (X2 (17)) ((60) * v1).toNatClampNeg (X2 (10) v1.toNatClampNeg))) fun X3 => l_X11_beginsCrawl_31 v1 X3 (0) else none) else none) else none) else none)
def lb_X11_takesPlace_12 (rec12 : JX → Int32 → Option JX) (X : JX) (v2 : Int32) : Option JX := (if (X (0) 37) ≤ v2 then some X else (if okI (v2 + (1)) 600 = true then (if okI v2 600 = true then nX (pX X (28) (upd (X (28)) v2.toNatClampNeg (X (28) (v2 + (1)).toNatClampNeg))) fun X2 => (if okI (v2 + (1)) 600 = true then (if okI v2 600 = true then nX (pX X2 (29) (upd (X2 (29)) v2.toNatClampNeg (X2 (29) (v2 + (1)).toNatClampNeg))) fun X3 => (if okI (v2 + (1)) 600 = true then (if okI v2 600 = true then nX (pX X3 (30) (upd (X3 (30)) v2.toNatClampNeg (vp_nar .boolean (X3 (30) (v2 + (1)).toNatClampNeg)))) fun X4 => nV (v2 + 1) fun t5 => rec12 X4 t5 else none) else none) else none) else none) else none) else none))
def l_X11_takesPlace_12 : JX → Int32 → Option JX := loop2 (lb_X11_takesPlace_12 ) 1000
def f_X11_takesPlace (X : JX) (v1 : Int32) : Option JX := nX (pX X (0) (upd (X (0)) 37 ((X (0) 37) - (1)))) fun X1 => l_X11_takesPlace_12 X1 v1
def b_X11_cleans_35 (rec7 : JX → Int32 → Option JX) (X : JX) (v1 : Int32) (v2 : Int32) : Option JX := nV (v2 + (-1)) fun t3 => rec7 X t3
def lb_X11_cleans_7 (v1 : Int32) (rec7 : JX → Int32 → Option JX) (X : JX) (v2 : Int32) : Option JX := (if v2 < 0 then some X else (if okI v2 600 = true then (if ¬ (X (28) v2.toNatClampNeg) = v1 then b_X11_cleans_35 rec7 X v1 v2 else (if okI v2 600 = true then (if (X (30) v2.toNatClampNeg) = 0 then b_X11_cleans_35 rec7 X v1 v2 else (f_X11_takesPlace X v2).bind fun X2 => b_X11_cleans_35 rec7 X2 v1 v2) else none)) else none))
def l_X11_cleans_7 (v1 : Int32) : JX → Int32 → Option JX := loop2 (lb_X11_cleans_7 v1) 1000
def f_X11_cleans (X : JX) (v1 : Int32) : Option JX := nV ((X (0) 37) - (1)) fun t1 => l_X11_cleans_7 v1 X t1
def f_X11_isNode (X : JX) (v1 : Int32) : Option Int32 := (f_X11_in X v1 (0) ((X (0) 2) - (1))).bind fun t1 => (if t1 = 0 then some (0) else (if okI v1 60 = true then (if (X (1) v1.toNatClampNeg) = 0 then some (0) else some (1)) else none))
def f_X11_isFileAt (X : JX) (v1 : Int32) : Option Int32 := (f_X11_isNode X v1).bind fun t1 => (if t1 = 0 then some (0) else (if okI v1 60 = true then (if ¬ (X (2) v1.toNatClampNeg) = 0 then some (0) else some (1)) else none))
def b_X11_isCloser_54 (X : JX) (v0 : Int32) (v2 : Int32) (v4 : Int32) (v5 : Int32) (v6 : Int32) (s0 : Int32) : Option Int32 := (if v4 = v5 then (if v6 = s0 then (if v2 ≤ v0 then some (0) else some (1)) else (if s0 ≤ v6 then some (0) else some (1))) else (if v5 ≤ v4 then some (0) else some (1)))
def b_X11_isCloser_42 (X : JX) (v0 : Int32) (v2 : Int32) (v3 : Int32) (v4 : Int32) (v5 : Int32) (s0 : Int32) : Option Int32 := (if v3 ≤ v2 then b_X11_isCloser_54 X v0 v2 v4 v5 s0 v3 else b_X11_isCloser_54 X v0 v2 v4 v5 s0 v2)
def b_X11_isCloser_30 (X : JX) (v0 : Int32) (v1 : Int32) (v2 : Int32) (v3 : Int32) (v4 : Int32) (s0 : Int32) : Option Int32 := (if v1 ≤ v0 then b_X11_isCloser_42 X v0 v2 v3 v4 s0 v1 else b_X11_isCloser_42 X v0 v2 v3 v4 s0 v0)
def b_X11_isCloser_14 (X : JX) (v0 : Int32) (v1 : Int32) (v2 : Int32) (v3 : Int32) (s0 : Int32) : Option Int32 := (if v3 ≤ v2 then b_X11_isCloser_30 X v0 v1 v2 v3 s0 (v2 - v3) else b_X11_isCloser_30 X v0 v1 v2 v3 s0 (v3 - v2))
def f_X11_isCloser (X : JX) (v0 : Int32) (v1 : Int32) (v2 : Int32) (v3 : Int32) : Option Int32 := (if v1 ≤ v0 then b_X11_isCloser_14 X v0 v1 v2 v3 (v0 - v1) else b_X11_isCloser_14 X v0 v1 v2 v3 (v1 - v0))
def b_X11_closest_26 (X : JX) : Option (Int32 × JX) := (f_X11_fails X (1)).bind fun t6 => some (t6.1, t6.2)
def b_X11_closest_203 (rec98 : Int32 → Int32 → Option (Int32 × JX)) (rec108 : Int32 → Int32 → Option (Int32 × JX)) (X : JX) (v2 : Int32) (v3 : Int32) (v4 : Int32) (v5 : Int32) (v6 : Int32) (v7 : Int32) (v8 : Int32) : Option (Int32 × JX) := nV (v8 + 1) fun t11 => rec108 v5 t11
def b_X11_closest_193 (rec98 : Int32 → Int32 → Option (Int32 × JX)) (rec108 : Int32 → Int32 → Option (Int32 × JX)) (X : JX) (v2 : Int32) (v3 : Int32) (v4 : Int32) (v6 : Int32) (v7 : Int32) (v8 : Int32) : Option (Int32 × JX) := nV (((100) * v7) + v8) fun t12 => b_X11_closest_203 rec98 rec108 X v2 v3 v4 t12 v6 v7 v8
def b_X11_closest_160 (rec98 : Int32 → Int32 → Option (Int32 × JX)) (rec108 : Int32 → Int32 → Option (Int32 × JX)) (X : JX) (v2 : Int32) (v3 : Int32) (v4 : Int32) (v5 : Int32) (v6 : Int32) (v7 : Int32) (v8 : Int32) (s0 : Int32) : Option (Int32 × JX) := (if s0 = 0 then b_X11_closest_203 rec98 rec108 X v2 v3 v4 v5 v6 v7 v8 else (if v5 = -1 then b_X11_closest_193 rec98 rec108 X v2 v3 v4 v6 v7 v8 else (f_X11_isCloser X v7 v8 (v5 / (100)) (v5 - v5 / (100) * (100))).bind fun t10 => (if t10 = 0 then b_X11_closest_203 rec98 rec108 X v2 v3 v4 v5 v6 v7 v8 else b_X11_closest_193 rec98 rec108 X v2 v3 v4 v6 v7 v8)))
def lb_X11_closest_108 (rec98 : Int32 → Int32 → Option (Int32 × JX)) (X : JX) (v2 : Int32) (v3 : Int32) (v4 : Int32) (v6 : Int32) (v7 : Int32) (rec108 : Int32 → Int32 → Option (Int32 × JX)) (v5 : Int32) (v8 : Int32) : Option (Int32 × JX) := (if v6 ≤ v8 then nV (v7 + 1) fun t9 => rec98 v5 t9 else (if v7 = v8 then b_X11_closest_160 rec98 rec108 X v2 v3 v4 v5 v6 v7 v8 (0) else (if okI (((20) * v2) + v7) 1200 = true then (if ¬ (X (24) (((20) * v2) + v7).toNatClampNeg) = v3 then b_X11_closest_160 rec98 rec108 X v2 v3 v4 v5 v6 v7 v8 (0) else (if okI (((20) * v2) + v8) 1200 = true then (if ¬ (X (24) (((20) * v2) + v8).toNatClampNeg) = v4 then b_X11_closest_160 rec98 rec108 X v2 v3 v4 v5 v6 v7 v8 (0) else b_X11_closest_160 rec98 rec108 X v2 v3 v4 v5 v6 v7 v8 (1)) else none)) else none)))
def l_X11_closest_108 (rec98 : Int32 → Int32 → Option (Int32 × JX)) (X : JX) (v2 : Int32) (v3 : Int32) (v4 : Int32) (v6 : Int32) (v7 : Int32) : Int32 → Int32 → Option (Int32 × JX) := loop2 (lb_X11_closest_108 rec98 X v2 v3 v4 v6 v7) 1000
def lb_X11_closest_98 (X : JX) (v2 : Int32) (v3 : Int32) (v4 : Int32) (v6 : Int32) (rec98 : Int32 → Int32 → Option (Int32 × JX)) (v5 : Int32) (v7 : Int32) : Option (Int32 × JX) := (if v6 ≤ v7 then some (v5, X) else l_X11_closest_108 rec98 X v2 v3 v4 v6 v7 v5 (0))
def l_X11_closest_98 (X : JX) (v2 : Int32) (v3 : Int32) (v4 : Int32) (v6 : Int32) : Int32 → Int32 → Option (Int32 × JX) := loop2 (lb_X11_closest_98 X v2 v3 v4 v6) 1000
def b_X11_closest_93 (X : JX) (v2 : Int32) (v3 : Int32) (v4 : Int32) (v5 : Int32) (s0 : Int32) : Option (Int32 × JX) := l_X11_closest_98 X v2 v3 v4 s0 v5 (0)
def b_X11_closest_59 (X : JX) (v2 : Int32) (v3 : Int32) (v4 : Int32) (s0 : Int32) : Option (Int32 × JX) := nX (pX X (0) (upd (X (0)) 0 s0)) fun X7 => (if (X7 (0) 0) ≤ 0 then nV (-1) fun t8 => (if okI v2 60 = true then (if (X7 (19) v2.toNatClampNeg) = 0 then b_X11_closest_93 X7 v2 v3 v4 t8 (0) else (if okI v2 60 = true then b_X11_closest_93 X7 v2 v3 v4 t8 (X7 (23) v2.toNatClampNeg) else none)) else none) else some (0, X7))
def f_X11_closest (X : JX) (v1 : Int32) (v2 : Int32) (v3 : Int32) (v4 : Int32) : Option (Int32 × JX) := (f_X11_in X v1 (0) (3)).bind fun t1 => (if t1 = 0 then b_X11_closest_26 X else (f_X11_isFileAt X v2).bind fun t2 => (if t2 = 0 then b_X11_closest_26 X else (f_X11_mayReadAt X v1 v2).bind fun t3 => (if ¬ t3 = 0 then (f_X11_in X v3 (0) (99)).bind fun t4 => (if t4 = 0 then b_X11_closest_59 X v2 v3 v4 (2) else (f_X11_in X v4 (0) (99)).bind fun t5 => (if t5 = 0 then b_X11_closest_59 X v2 v3 v4 (2) else b_X11_closest_59 X v2 v3 v4 (0))) else b_X11_closest_26 X)))
def f_X11_comes (X : JX) (v1 : Int32) (v2 : Int32) (v3 : Int32) : Option JX := (if v1 = -1 then some X else (if okI v1 4 = true then (if (X (14) v1.toNatClampNeg) = 0 then (if okI v1 4 = true then (if ¬ (X (11) v1.toNatClampNeg) = 8 then (if okI v1 4 = true then (if okI (((8) * v1) + (X (11) v1.toNatClampNeg)) 32 = true then nX (pX X (12) (upd (X (12)) (((8) * v1) + (X (11) v1.toNatClampNeg)).toNatClampNeg v2)) fun X1 => (if okI v1 4 = true then (if okI (((8) * v1) + (X1 (11) v1.toNatClampNeg)) 32 = true then nX (pX X1 (13) (upd (X1 (13)) (((8) * v1) + (X1 (11) v1.toNatClampNeg)).toNatClampNeg v3)) fun X2 => (if okI v1 4 = true then (if okI v1 4 = true then nX (pX X2 (11) (upd (X2 (11)) v1.toNatClampNeg ((X2 (11) v1.toNatClampNeg) + (1)))) fun X3 => some X3 else none) else none) else none) else none) else none) else none) else (if okI v1 4 = true then nX (pX X (11) (upd (X (11)) v1.toNatClampNeg (0))) fun X4 => (if okI v1 4 = true then nX (pX X4 (14) (upd (X4 (14)) v1.toNatClampNeg (vp_nar .boolean (1)))) fun X5 => some X5 else none) else none)) else none) else some X) else none))
def b_X11_cost_78 (X : JX) (v2 : Int32) : Option Int32 := (if okI v2 60 = true then some ((1) + (X (6) v2.toNatClampNeg)) else none)
def b_X11_cost_49 (X : JX) (v2 : Int32) (s0 : Int32) : Option Int32 := (if s0 = 0 then some (1) else (if okI v2 60 = true then (if (X (19) v2.toNatClampNeg) = 0 then b_X11_cost_78 X v2 else (if okI v2 60 = true then (if okI v2 60 = true then (if (X (22) v2.toNatClampNeg) = (X (5) v2.toNatClampNeg) then some (1) else b_X11_cost_78 X v2) else none) else none)) else none))
def f_X11_cost (X : JX) (v1 : Int32) : Option Int32 := (if okI v1 60 = true then nV (X (25) v1.toNatClampNeg) fun t1 => (if okI v1 60 = true then (if ¬ (X (26) v1.toNatClampNeg) = 1 then b_X11_cost_49 X t1 (0) else (f_X11_over X t1).bind fun t2 => (if t2 = -1 then b_X11_cost_49 X t1 (0) else (if okI t1 60 = true then (if ¬ (X (2) t1.toNatClampNeg) = 0 then b_X11_cost_49 X t1 (0) else (if okI t1 60 = true then (if ¬ (X (8) t1.toNatClampNeg) = 0 then b_X11_cost_49 X t1 (0) else b_X11_cost_49 X t1 (1)) else none)) else none))) else none) else none)
def b_X11_count_45 (rec5 : Int32 → Int32 → Option Int32) (X : JX) (v1 : Int32) (v2 : Int32) (v4 : Int32) (s0 : Int32) (s1 : Int32) : Option Int32 := nV (s1 + s0) fun t1 => nV (v4 + 1) fun t2 => rec5 t1 t2
def lb_X11_count_5 (X : JX) (v1 : Int32) (v2 : Int32) (rec5 : Int32 → Int32 → Option Int32) (v3 : Int32) (v4 : Int32) : Option Int32 := (if (X (0) 37) ≤ v4 then some v3 else (if okI v4 600 = true then (if ¬ (X (28) v4.toNatClampNeg) = v1 then b_X11_count_45 rec5 X v1 v2 v4 (0) v3 else (if okI v4 600 = true then (if ¬ (X (30) v4.toNatClampNeg) = 0 then b_X11_count_45 rec5 X v1 v2 v4 (1) v3 else (if ¬ v2 = 0 then b_X11_count_45 rec5 X v1 v2 v4 (0) v3 else b_X11_count_45 rec5 X v1 v2 v4 (1) v3)) else none)) else none))
def l_X11_count_5 (X : JX) (v1 : Int32) (v2 : Int32) : Int32 → Int32 → Option Int32 := loop2 (lb_X11_count_5 X v1 v2) 1000
def f_X11_count (X : JX) (v1 : Int32) (v2 : Int32) : Option Int32 := l_X11_count_5 X v1 v2 (0) (0)
def b_X11_crawl_64 (rec39 : Int32 → Int32 → Option (Int32 × JX)) (X : JX) (v4 : Int32) (s0 : Int32) (s1 : Int32) : Option (Int32 × JX) := nV (s1 + s0) fun t4 => nV (v4 + 1) fun t5 => rec39 t4 t5
def lb_X11_crawl_39 (X : JX) (rec39 : Int32 → Int32 → Option (Int32 × JX)) (v3 : Int32) (v4 : Int32) : Option (Int32 × JX) := (if (X (0) 12) ≤ v4 then some (v3, X) else (if okI v4 4 = true then (if (X (15) v4.toNatClampNeg) = 0 then b_X11_crawl_64 rec39 X v4 (0) v3 else b_X11_crawl_64 rec39 X v4 (1) v3) else none))
def l_X11_crawl_39 (X : JX) : Int32 → Int32 → Option (Int32 × JX) := loop2 (lb_X11_crawl_39 X) 1000
def b_X11_crawl_17 (X : JX) (v2 : Int32) (s0 : Int32) : Option (Int32 × JX) := nX (pX X (0) (upd (X (0)) 0 s0)) fun X2 => (if (X2 (0) 0) ≤ 0 then (f_X11_beginsCrawl X2 v2).bind fun X3 => l_X11_crawl_39 X3 (0) (0) else some (0, X2))
def f_X11_crawl (X : JX) (v1 : Int32) : Option (Int32 × JX) := (f_X11_rootAt X v1).bind fun t1 => (if ¬ t1 = -1 then b_X11_crawl_17 X t1 (0) else b_X11_crawl_17 X t1 (1))
def b_X11_dead_32 (rec9 : Int32 → Int32 → Option (Int32 × JX)) (X : JX) (v2 : Int32) (s0 : Int32) (s1 : Int32) : Option (Int32 × JX) := nV (s1 + s0) fun t2 => nV (v2 + 1) fun t3 => rec9 t2 t3
def lb_X11_dead_9 (X : JX) (rec9 : Int32 → Int32 → Option (Int32 × JX)) (v1 : Int32) (v2 : Int32) : Option (Int32 × JX) := (if (X (0) 37) ≤ v2 then some (v1, X) else (if okI v2 600 = true then (if (X (30) v2.toNatClampNeg) = 0 then b_X11_dead_32 rec9 X v2 (0) v1 else b_X11_dead_32 rec9 X v2 (1) v1) else none))
def l_X11_dead_9 (X : JX) : Int32 → Int32 → Option (Int32 × JX) := loop2 (lb_X11_dead_9 X) 1000
def f_X11_dead (X : JX) : Option (Int32 × JX) := nX (pX X (0) (upd (X (0)) 0 (0))) fun X1 => l_X11_dead_9 X1 (0) (0)
def b_X11_firstNoticed_36 (rec9 : Int32 → Int32 → Option Int32) (X : JX) (v2 : Int32) (s0 : Int32) : Option Int32 := nV (v2 + (-1)) fun t3 => rec9 s0 t3
def lb_X11_firstNoticed_9 (X : JX) (rec9 : Int32 → Int32 → Option Int32) (v1 : Int32) (v2 : Int32) : Option Int32 := (if v2 < 0 then some v1 else (if okI v2 4 = true then (if ¬ (X (14) v2.toNatClampNeg) = 0 then b_X11_firstNoticed_36 rec9 X v2 v2 else (if okI v2 4 = true then (if (X (11) v2.toNatClampNeg) ≤ 0 then b_X11_firstNoticed_36 rec9 X v2 v1 else b_X11_firstNoticed_36 rec9 X v2 v2) else none)) else none))
def l_X11_firstNoticed_9 (X : JX) : Int32 → Int32 → Option Int32 := loop2 (lb_X11_firstNoticed_9 X) 1000
def f_X11_firstNoticed (X : JX) : Option Int32 := nV (-1) fun t1 => nV ((X (0) 12) - (1)) fun t2 => l_X11_firstNoticed_9 X t1 t2
def b_X11_firstAct_27 (rec9 : Int32 → Int32 → Option Int32) (X : JX) (v2 : Int32) (s0 : Int32) : Option Int32 := nV (v2 + (-1)) fun t3 => rec9 s0 t3
def lb_X11_firstAct_9 (X : JX) (rec9 : Int32 → Int32 → Option Int32) (v1 : Int32) (v2 : Int32) : Option Int32 := (if v2 < 0 then some v1 else (if okI v2 60 = true then (if (X (27) v2.toNatClampNeg) = 0 then b_X11_firstAct_27 rec9 X v2 v2 else b_X11_firstAct_27 rec9 X v2 v1) else none))
def l_X11_firstAct_9 (X : JX) : Int32 → Int32 → Option Int32 := loop2 (lb_X11_firstAct_9 X) 1000
def f_X11_firstAct (X : JX) : Option Int32 := nV (-1) fun t1 => nV ((X (0) 30) - (1)) fun t2 => l_X11_firstAct_9 X t1 t2
def b_X11_firstCrawl_27 (rec9 : Int32 → Int32 → Option Int32) (X : JX) (v2 : Int32) (s0 : Int32) : Option Int32 := nV (v2 + (-1)) fun t3 => rec9 s0 t3
def lb_X11_firstCrawl_9 (X : JX) (rec9 : Int32 → Int32 → Option Int32) (v1 : Int32) (v2 : Int32) : Option Int32 := (if v2 < 0 then some v1 else (if okI v2 4 = true then (if (X (15) v2.toNatClampNeg) = 0 then b_X11_firstCrawl_27 rec9 X v2 v1 else b_X11_firstCrawl_27 rec9 X v2 v2) else none))
def l_X11_firstCrawl_9 (X : JX) : Int32 → Int32 → Option Int32 := loop2 (lb_X11_firstCrawl_9 X) 1000
def f_X11_firstCrawl (X : JX) : Option Int32 := nV (-1) fun t1 => nV ((X (0) 12) - (1)) fun t2 => l_X11_firstCrawl_9 X t1 t2
def lb_X11_notes_65 (v1 : Int32) (rec65 : JX → Int32 → Option JX) (X : JX) (v2 : Int32) : Option JX := (if okI v1 4 = true then (if (X (11) v1.toNatClampNeg) ≤ v2 then some X else (if okI ((((8) * v1) + v2) + (1)) 32 = true then (if okI (((8) * v1) + v2) 32 = true then nX (pX X (12) (upd (X (12)) (((8) * v1) + v2).toNatClampNeg (X (12) ((((8) * v1) + v2) + (1)).toNatClampNeg))) fun X5 => (if okI ((((8) * v1) + v2) + (1)) 32 = true then (if okI (((8) * v1) + v2) 32 = true then nX (pX X5 (13) (upd (X5 (13)) (((8) * v1) + v2).toNatClampNeg (X5 (13) ((((8) * v1) + v2) + (1)).toNatClampNeg))) fun X6 => nV (v2 + 1) fun t7 => rec65 X6 t7 else none) else none) else none) else none)) else none)
def l_X11_notes_65 (v1 : Int32) : JX → Int32 → Option JX := loop2 (lb_X11_notes_65 v1) 1000
def b_X11_notes_50 (X : JX) (v1 : Int32) (s0 : Int32) (s1 : Int32) : Option JX := (f_X11_adds X s1 s0).bind fun X3 => (if okI v1 4 = true then (if okI v1 4 = true then nX (pX X3 (11) (upd (X3 (11)) v1.toNatClampNeg ((X3 (11) v1.toNatClampNeg) - (1)))) fun X4 => l_X11_notes_65 v1 X4 (0) else none) else none)
def f_X11_notes (X : JX) (v1 : Int32) : Option JX := (if okI v1 4 = true then (if (X (14) v1.toNatClampNeg) = 0 then (if okI ((8) * v1) 32 = true then (if okI ((8) * v1) 32 = true then (if ¬ (X (12) ((8) * v1).toNatClampNeg) = 2 then b_X11_notes_50 X v1 (1) (X (13) ((8) * v1).toNatClampNeg) else b_X11_notes_50 X v1 (2) (X (13) ((8) * v1).toNatClampNeg)) else none) else none) else (if okI v1 4 = true then nX (pX X (14) (upd (X (14)) v1.toNatClampNeg (vp_nar .boolean (0)))) fun X1 => (f_X11_beginsCrawl X1 v1).bind fun X2 => some X2 else none)) else none)
def b_X11_isKnown_63 (X : JX) : Option Int32 := some (1)
def f_X11_isKnown (X : JX) (v1 : Int32) : Option Int32 := (if okI v1 60 = true then (if (X (19) v1.toNatClampNeg) = 0 then some (0) else (if okI v1 60 = true then (if okI v1 60 = true then (if ¬ (X (20) v1.toNatClampNeg) = (X (3) v1.toNatClampNeg) then some (0) else (if okI v1 60 = true then (if okI v1 60 = true then (if ¬ (X (21) v1.toNatClampNeg) = (X (4) v1.toNatClampNeg) then some (0) else (if okI v1 60 = true then (if ¬ (X (2) v1.toNatClampNeg) = 0 then b_X11_isKnown_63 X else (if okI v1 60 = true then (if okI v1 60 = true then (if ¬ (X (22) v1.toNatClampNeg) = (X (5) v1.toNatClampNeg) then some (0) else b_X11_isKnown_63 X) else none) else none)) else none)) else none) else none)) else none) else none)) else none)
def b_X11_isWaiting_41 (rec5 : Int32 → Int32 → Option Int32) (X : JX) (v1 : Int32) (v2 : Int32) (v4 : Int32) (s0 : Int32) : Option Int32 := nV (v4 + 1) fun t1 => rec5 s0 t1
def lb_X11_isWaiting_5 (X : JX) (v1 : Int32) (v2 : Int32) (rec5 : Int32 → Int32 → Option Int32) (v3 : Int32) (v4 : Int32) : Option Int32 := (if okI v1 4 = true then (if (X (16) v1.toNatClampNeg) ≤ v4 then (if okB v3 = true then some v3 else none) else (if ¬ v3 = 0 then b_X11_isWaiting_41 rec5 X v1 v2 v4 (1) else (if okI (((60) * v1) + v4) 240 = true then (if ¬ (X (17) (((60) * v1) + v4).toNatClampNeg) = v2 then b_X11_isWaiting_41 rec5 X v1 v2 v4 (0) else b_X11_isWaiting_41 rec5 X v1 v2 v4 (1)) else none))) else none)
def l_X11_isWaiting_5 (X : JX) (v1 : Int32) (v2 : Int32) : Int32 → Int32 → Option Int32 := loop2 (lb_X11_isWaiting_5 X v1 v2) 1000
def f_X11_isWaiting (X : JX) (v1 : Int32) (v2 : Int32) : Option Int32 := l_X11_isWaiting_5 X v1 v2 (0) (0)
def b_X11_goesOn_256 (rec219 : JX → Int32 → Option JX) (X : JX) (v1 : Int32) (v3 : Int32) : Option JX := nV (v3 + 1) fun t11 => rec219 X t11
def lb_X11_goesOn_219 (v1 : Int32) (rec219 : JX → Int32 → Option JX) (X : JX) (v3 : Int32) : Option JX := (if (X (0) 2) ≤ v3 then some X else (if okI v3 60 = true then (if (X (19) v3.toNatClampNeg) = 0 then b_X11_goesOn_256 rec219 X v1 v3 else (if okI (((60) * v1) + v3) 240 = true then (if ¬ (X (18) (((60) * v1) + v3).toNatClampNeg) = 0 then b_X11_goesOn_256 rec219 X v1 v3 else (f_X11_adds X v3 (1)).bind fun X7 => b_X11_goesOn_256 rec219 X7 v1 v3) else none)) else none))
def l_X11_goesOn_219 (v1 : Int32) : JX → Int32 → Option JX := loop2 (lb_X11_goesOn_219 v1) 1000
def b_X11_goesOn_201 (X : JX) (v1 : Int32) : Option JX := (if okI v1 4 = true then (if ¬ (X (16) v1.toNatClampNeg) = 0 then some X else (if okI v1 4 = true then nX (pX X (15) (upd (X (15)) v1.toNatClampNeg (vp_nar .boolean (0)))) fun X6 => l_X11_goesOn_219 v1 X6 (0) else none)) else none)
def b_X11_goesOn_195 (rec97 : JX → Int32 → Option JX) (X : JX) (v1 : Int32) (v2 : Int32) (v3 : Int32) : Option JX := nV (v3 + 1) fun t12 => rec97 X t12
def b_X11_goesOn_150 (rec97 : JX → Int32 → Option JX) (X : JX) (v1 : Int32) (v2 : Int32) (v3 : Int32) : Option JX := (if okI v3 60 = true then (if (X (2) v3.toNatClampNeg) = 0 then b_X11_goesOn_195 rec97 X v1 v2 v3 else (f_X11_isWaiting X v1 v3).bind fun t13 => (if ¬ t13 = 0 then b_X11_goesOn_195 rec97 X v1 v2 v3 else (if okI v1 4 = true then (if okI (((60) * v1) + (X (16) v1.toNatClampNeg)) 240 = true then nX (pX X (17) (upd (X (17)) (((60) * v1) + (X (16) v1.toNatClampNeg)).toNatClampNeg v3)) fun X14 => (if okI v1 4 = true then (if okI v1 4 = true then nX (pX X14 (16) (upd (X14 (16)) v1.toNatClampNeg ((X14 (16) v1.toNatClampNeg) + (1)))) fun X15 => b_X11_goesOn_195 rec97 X15 v1 v2 v3 else none) else none) else none) else none))) else none)
def lb_X11_goesOn_97 (v1 : Int32) (v2 : Int32) (rec97 : JX → Int32 → Option JX) (X : JX) (v3 : Int32) : Option JX := (if (X (0) 2) ≤ v3 then b_X11_goesOn_201 X v1 else (if okI v3 60 = true then (if (X (1) v3.toNatClampNeg) = 0 then b_X11_goesOn_195 rec97 X v1 v2 v3 else (if okI v3 60 = true then (if ¬ (X (3) v3.toNatClampNeg) = v2 then b_X11_goesOn_195 rec97 X v1 v2 v3 else (if okI (((60) * v1) + v3) 240 = true then nX (pX X (18) (upd (X (18)) (((60) * v1) + v3).toNatClampNeg (vp_nar .boolean (1)))) fun X8 => (f_X11_isKnown X8 v3).bind fun t9 => (if ¬ t9 = 0 then b_X11_goesOn_150 rec97 X8 v1 v2 v3 else (f_X11_adds X8 v3 (1)).bind fun X10 => b_X11_goesOn_150 rec97 X10 v1 v2 v3) else none)) else none)) else none))
def l_X11_goesOn_97 (v1 : Int32) (v2 : Int32) : JX → Int32 → Option JX := loop2 (lb_X11_goesOn_97 v1 v2) 1000
def b_X11_goesOn_95 (X : JX) (v1 : Int32) (v2 : Int32) : Option JX := l_X11_goesOn_97 v1 v2 X (0)
def lb_X11_goesOn_22 (v1 : Int32) (v2 : Int32) (rec22 : JX → Int32 → Option JX) (X : JX) (v3 : Int32) : Option JX := (if okI v1 4 = true then (if (X (16) v1.toNatClampNeg) ≤ v3 then (if okI v2 60 = true then (if (X (1) v2.toNatClampNeg) = 0 then b_X11_goesOn_201 X v1 else (if okI v1 4 = true then (if v2 = (X (10) v1.toNatClampNeg) then b_X11_goesOn_95 X v1 v2 else (if okI v1 4 = true then (f_X11_isBelow X v2 (X (10) v1.toNatClampNeg)).bind fun t3 => (if t3 = 0 then b_X11_goesOn_201 X v1 else b_X11_goesOn_95 X v1 v2) else none)) else none)) else none) else (if okI ((((60) * v1) + v3) + (1)) 240 = true then (if okI (((60) * v1) + v3) 240 = true then nX (pX X (17) (upd (X (17)) (((60) * v1) + v3).toNatClampNeg (X (17) ((((60) * v1) + v3) + (1)).toNatClampNeg))) fun X4 => nV (v3 + 1) fun t5 => rec22 X4 t5 else none) else none)) else none)
def l_X11_goesOn_22 (v1 : Int32) (v2 : Int32) : JX → Int32 → Option JX := loop2 (lb_X11_goesOn_22 v1 v2) 1000
def f_X11_goesOn (X : JX) (v1 : Int32) : Option JX := (if okI ((60) * v1) 240 = true then nV (X (17) ((60) * v1).toNatClampNeg) fun t1 => (if okI v1 4 = true then (if okI v1 4 = true then nX (pX X (16) (upd (X (16)) v1.toNatClampNeg ((X (16) v1.toNatClampNeg) - (1)))) fun X2 => l_X11_goesOn_22 v1 t1 X2 (0) else none) else none) else none)
def b_X11_does_61 (X : JX) (v2 : Int32) (v3 : Int32) (v4 : Int32) (v5 : Int32) : Option (Int32 × JX) := (if v2 = -1 then (if v3 = -1 then (f_X11_goesOn X v4).bind fun X5 => some (v5, X5) else (f_X11_acts X v3).bind fun X6 => some (v5, X6)) else (f_X11_notes X v2).bind fun X7 => some (v5, X7))
def b_X11_does_35 (X : JX) (v1 : Int32) (v2 : Int32) (v3 : Int32) (v4 : Int32) (s0 : Int32) : Option (Int32 × JX) := (if v1 < s0 then some (0, X) else (if ¬ v2 = -1 then b_X11_does_61 X v2 v3 v4 s0 else (if ¬ v3 = -1 then b_X11_does_61 X v2 v3 v4 s0 else (if ¬ v4 = -1 then b_X11_does_61 X v2 v3 v4 s0 else some (0, X)))))
def f_X11_does (X : JX) (v1 : Int32) : Option (Int32 × JX) := (f_X11_firstNoticed X ).bind fun t1 => (f_X11_firstAct X ).bind fun t2 => (f_X11_firstCrawl X ).bind fun t3 => (if ¬ t1 = -1 then b_X11_does_35 X v1 t1 t2 t3 (1) else (if t2 = -1 then b_X11_does_35 X v1 t1 t2 t3 (1) else (f_X11_cost X t2).bind fun t4 => b_X11_does_35 X v1 t1 t2 t3 t4))
def lb_X11_drops_192 (rec12 : JX → Int32 → Option JX) (v2 : Int32) (rec192 : JX → Int32 → Option JX) (X : JX) (v3 : Int32) : Option JX := (if 60 ≤ v3 then nV (v2 + 1) fun t12 => rec12 X t12 else (if okI (((60) * (v2 + (1))) + v3) 240 = true then (if okI (((60) * v2) + v3) 240 = true then nX (pX X (18) (upd (X (18)) (((60) * v2) + v3).toNatClampNeg (vp_nar .boolean (X (18) (((60) * (v2 + (1))) + v3).toNatClampNeg)))) fun X13 => nV (v3 + 1) fun t14 => rec192 X13 t14 else none) else none))
def l_X11_drops_192 (rec12 : JX → Int32 → Option JX) (v2 : Int32) : JX → Int32 → Option JX := loop2 (lb_X11_drops_192 rec12 v2) 1000
def lb_X11_drops_154 (rec12 : JX → Int32 → Option JX) (v2 : Int32) (rec154 : JX → Int32 → Option JX) (X : JX) (v3 : Int32) : Option JX := (if 60 ≤ v3 then l_X11_drops_192 rec12 v2 X (0) else (if okI (((60) * (v2 + (1))) + v3) 240 = true then (if okI (((60) * v2) + v3) 240 = true then nX (pX X (17) (upd (X (17)) (((60) * v2) + v3).toNatClampNeg (X (17) (((60) * (v2 + (1))) + v3).toNatClampNeg))) fun X10 => nV (v3 + 1) fun t11 => rec154 X10 t11 else none) else none))
def l_X11_drops_154 (rec12 : JX → Int32 → Option JX) (v2 : Int32) : JX → Int32 → Option JX := loop2 (lb_X11_drops_154 rec12 v2) 1000
def lb_X11_drops_92 (rec12 : JX → Int32 → Option JX) (v2 : Int32) (rec92 : JX → Int32 → Option JX) (X : JX) (v3 : Int32) : Option JX := (if 8 ≤ v3 then l_X11_drops_154 rec12 v2 X (0) else (if okI (((8) * (v2 + (1))) + v3) 32 = true then (if okI (((8) * v2) + v3) 32 = true then nX (pX X (12) (upd (X (12)) (((8) * v2) + v3).toNatClampNeg (X (12) (((8) * (v2 + (1))) + v3).toNatClampNeg))) fun X7 => (if okI (((8) * (v2 + (1))) + v3) 32 = true then (if okI (((8) * v2) + v3) 32 = true then nX (pX X7 (13) (upd (X7 (13)) (((8) * v2) + v3).toNatClampNeg (X7 (13) (((8) * (v2 + (1))) + v3).toNatClampNeg))) fun X8 => nV (v3 + 1) fun t9 => rec92 X8 t9 else none) else none) else none) else none))
def l_X11_drops_92 (rec12 : JX → Int32 → Option JX) (v2 : Int32) : JX → Int32 → Option JX := loop2 (lb_X11_drops_92 rec12 v2) 1000
def lb_X11_drops_12 (rec12 : JX → Int32 → Option JX) (X : JX) (v2 : Int32) : Option JX := (if (X (0) 12) ≤ v2 then some X else (if okI (v2 + (1)) 4 = true then (if okI v2 4 = true then nX (pX X (10) (upd (X (10)) v2.toNatClampNeg (X (10) (v2 + (1)).toNatClampNeg))) fun X2 => (if okI (v2 + (1)) 4 = true then (if okI v2 4 = true then nX (pX X2 (11) (upd (X2 (11)) v2.toNatClampNeg (X2 (11) (v2 + (1)).toNatClampNeg))) fun X3 => (if okI (v2 + (1)) 4 = true then (if okI v2 4 = true then nX (pX X3 (14) (upd (X3 (14)) v2.toNatClampNeg (vp_nar .boolean (X3 (14) (v2 + (1)).toNatClampNeg)))) fun X4 => (if okI (v2 + (1)) 4 = true then (if okI v2 4 = true then nX (pX X4 (15) (upd (X4 (15)) v2.toNatClampNeg (vp_nar .boolean (X4 (15) (v2 + (1)).toNatClampNeg)))) fun X5 => (if okI (v2 + (1)) 4 = true then (if okI v2 4 = true then nX (pX X5 (16) (upd (X5 (16)) v2.toNatClampNeg (X5 (16) (v2 + (1)).toNatClampNeg))) fun X6 => l_X11_drops_92 rec12 v2 X6 (0) else none) else none) else none) else none) else none) else none) else none) else none) else none) else none))
def l_X11_drops_12 : JX → Int32 → Option JX := loop2 (lb_X11_drops_12 ) 1000
def f_X11_drops (X : JX) (v1 : Int32) : Option JX := nX (pX X (0) (upd (X (0)) 12 ((X (0) 12) - (1)))) fun X1 => l_X11_drops_12 X1 v1
def b_X11_edition_20 (X : JX) (v1 : Int32) (s0 : Int32) : Option (Int32 × JX) := nX (pX X (0) (upd (X (0)) 0 s0)) fun X2 => (if (X2 (0) 0) ≤ 0 then (if okI v1 60 = true then (if (X2 (19) v1.toNatClampNeg) = 0 then some (-1, X2) else (if okI v1 60 = true then some ((X2 (22) v1.toNatClampNeg), X2) else none)) else none) else some (0, X2))
def f_X11_edition (X : JX) (v1 : Int32) : Option (Int32 × JX) := (f_X11_in X v1 (0) ((X (0) 2) - (1))).bind fun t1 => (if t1 = 0 then b_X11_edition_20 X v1 (1) else b_X11_edition_20 X v1 (0))
def b_X11_empty_27 (X : JX) (v1 : Int32) (s0 : Int32) : Option (Int32 × JX) := nX (pX X (0) (upd (X (0)) 0 s0)) fun X2 => (if (X2 (0) 0) ≤ 0 then (if okI v1 60 = true then nV (X2 (6) v1.toNatClampNeg) fun t3 => (if okI v1 60 = true then nX (pX X2 (6) (upd (X2 (6)) v1.toNatClampNeg (0))) fun X4 => (if okI v1 60 = true then (if okI v1 60 = true then nX (pX X4 (5) (upd (X4 (5)) v1.toNatClampNeg ((X4 (5) v1.toNatClampNeg) + (1)))) fun X5 => (f_X11_over X5 v1).bind fun t6 => (f_X11_comes X5 t6 (1) v1).bind fun X7 => some (t3, X7) else none) else none) else none) else none) else some (0, X2))
def f_X11_empty (X : JX) (v1 : Int32) : Option (Int32 × JX) := (f_X11_isFileAt X v1).bind fun t1 => (if ¬ t1 = 0 then (if okI v1 60 = true then (if (X (8) v1.toNatClampNeg) = 0 then b_X11_empty_27 X v1 (0) else b_X11_empty_27 X v1 (2)) else none) else b_X11_empty_27 X v1 (1))
def b_X11_entries_32 (rec9 : Int32 → Int32 → Option (Int32 × JX)) (X : JX) (v2 : Int32) (s0 : Int32) (s1 : Int32) : Option (Int32 × JX) := nV (s1 + s0) fun t2 => nV (v2 + 1) fun t3 => rec9 t2 t3
def lb_X11_entries_9 (X : JX) (rec9 : Int32 → Int32 → Option (Int32 × JX)) (v1 : Int32) (v2 : Int32) : Option (Int32 × JX) := (if (X (0) 2) ≤ v2 then some (v1, X) else (if okI v2 60 = true then (if (X (19) v2.toNatClampNeg) = 0 then b_X11_entries_32 rec9 X v2 (0) v1 else b_X11_entries_32 rec9 X v2 (1) v1) else none))
def l_X11_entries_9 (X : JX) : Int32 → Int32 → Option (Int32 × JX) := loop2 (lb_X11_entries_9 X) 1000
def f_X11_entries (X : JX) : Option (Int32 × JX) := nX (pX X (0) (upd (X (0)) 0 (0))) fun X1 => l_X11_entries_9 X1 (0) (0)
def b_X11_holdsRoot_45 (rec4 : Int32 → Int32 → Option Int32) (X : JX) (v1 : Int32) (v3 : Int32) (s0 : Int32) : Option Int32 := nV (v3 + 1) fun t2 => rec4 s0 t2
def lb_X11_holdsRoot_4 (X : JX) (v1 : Int32) (rec4 : Int32 → Int32 → Option Int32) (v2 : Int32) (v3 : Int32) : Option Int32 := (if (X (0) 12) ≤ v3 then (if okB v2 = true then some v2 else none) else (if ¬ v2 = 0 then b_X11_holdsRoot_45 rec4 X v1 v3 (1) else (if okI v3 4 = true then (if (X (10) v3.toNatClampNeg) = v1 then b_X11_holdsRoot_45 rec4 X v1 v3 (1) else (if okI v3 4 = true then (f_X11_isBelow X (X (10) v3.toNatClampNeg) v1).bind fun t1 => (if t1 = 0 then b_X11_holdsRoot_45 rec4 X v1 v3 (0) else b_X11_holdsRoot_45 rec4 X v1 v3 (1)) else none)) else none)))
def l_X11_holdsRoot_4 (X : JX) (v1 : Int32) : Int32 → Int32 → Option Int32 := loop2 (lb_X11_holdsRoot_4 X v1) 1000
def f_X11_holdsRoot (X : JX) (v1 : Int32) : Option Int32 := l_X11_holdsRoot_4 X v1 (0) (0)
def b_X11_joins_42 (rec12 : JX → Int32 → Option JX) (X : JX) (v1 : Int32) (v2 : Int32) (s0 : Int32) (s1 : Int32) (s2 : Int32) : Option JX := (if okI s2 600 = true then nX (pX X (28) (upd (X (28)) s2.toNatClampNeg (s1 - s0))) fun X2 => nV (v2 + 1) fun t3 => rec12 X2 t3 else none)
def lb_X11_joins_12 (v1 : Int32) (rec12 : JX → Int32 → Option JX) (X : JX) (v2 : Int32) : Option JX := (if (X (0) 37) ≤ v2 then some X else (if okI v2 600 = true then (if okI v2 600 = true then (if (X (28) v2.toNatClampNeg) ≤ v1 then b_X11_joins_42 rec12 X v1 v2 (0) (X (28) v2.toNatClampNeg) v2 else b_X11_joins_42 rec12 X v1 v2 (1) (X (28) v2.toNatClampNeg) v2) else none) else none))
def l_X11_joins_12 (v1 : Int32) : JX → Int32 → Option JX := loop2 (lb_X11_joins_12 v1) 1000
def f_X11_joins (X : JX) (v1 : Int32) : Option JX := nX (pX X (0) (upd (X (0)) 41 ((X (0) 41) - (1)))) fun X1 => l_X11_joins_12 v1 X1 (0)
def b_X11_indexes_199 (rec139 : JX → Option JX) (rec151 : Int32 → Int32 → Option JX) (X : JX) (v3 : Int32) (s0 : Int32) : Option JX := nV (v3 + 1) fun t21 => rec151 s0 t21
def lb_X11_indexes_151 (rec139 : JX → Option JX) (X : JX) (rec151 : Int32 → Int32 → Option JX) (v2 : Int32) (v3 : Int32) : Option JX := (if (X (0) 41) ≤ (v3 + (1)) then (f_X11_cleans X v2).bind fun X14 => (f_X11_cleans X14 (v2 + (1))).bind fun X15 => (f_X11_joins X15 v2).bind fun X16 => rec139 X16 else (f_X11_count X v3 (0)).bind fun t17 => (f_X11_count X (v3 + (1)) (0)).bind fun t18 => (f_X11_count X v2 (0)).bind fun t19 => (f_X11_count X (v2 + (1)) (0)).bind fun t20 => (if (t19 + t20) ≤ (t17 + t18) then b_X11_indexes_199 rec139 rec151 X v3 v2 else b_X11_indexes_199 rec139 rec151 X v3 v3))
def l_X11_indexes_151 (rec139 : JX → Option JX) (X : JX) : Int32 → Int32 → Option JX := loop2 (lb_X11_indexes_151 rec139 X) 1000
def lb_X11_indexes_139 (rec139 : JX → Option JX) (X : JX) : Option JX := (if (X (0) 41) ≤ 3 then some X else l_X11_indexes_151 rec139 X (0) (1))
def l_X11_indexes_139 : JX → Option JX := loop1 (lb_X11_indexes_139 ) 1000
def b_X11_indexes_133 (rec104 : JX → Int32 → Option JX) (X : JX) (v2 : Int32) : Option JX := nV (v2 + (-1)) fun t13 => rec104 X t13
def lb_X11_indexes_104 (rec104 : JX → Int32 → Option JX) (X : JX) (v2 : Int32) : Option JX := (if v2 < 0 then l_X11_indexes_139 X else (f_X11_count X v2 (0)).bind fun t9 => (f_X11_count X v2 (1)).bind fun t10 => (if ¬ t9 = t10 then b_X11_indexes_133 rec104 X v2 else (f_X11_cleans X v2).bind fun X11 => (f_X11_joins X11 v2).bind fun X12 => b_X11_indexes_133 rec104 X12 v2))
def l_X11_indexes_104 : JX → Int32 → Option JX := loop2 (lb_X11_indexes_104 ) 1000
def b_X11_indexes_93 (X : JX) (s0 : Int32) (s1 : Int32) : Option JX := nX (pX X (0) (upd (X (0)) 41 (s1 + s0))) fun X6 => nV ((X6 (0) 41) - (1)) fun t7 => l_X11_indexes_104 X6 t7
def b_X11_indexes_73 (rec4 : JX → Int32 → Int32 → Option JX) (X : JX) (v1 : Int32) (v2 : Int32) : Option JX := nV (v2 + 1) fun t8 => rec4 X v1 t8
def lb_X11_indexes_4 (rec4 : JX → Int32 → Int32 → Option JX) (X : JX) (v1 : Int32) (v2 : Int32) : Option JX := (if (X (0) 2) ≤ v2 then (if v1 = 0 then b_X11_indexes_93 X (0) (X (0) 41) else b_X11_indexes_93 X (1) (X (0) 41)) else (if okI v2 60 = true then (if (X (31) v2.toNatClampNeg) = 0 then b_X11_indexes_73 rec4 X v1 v2 else (if okI (X (0) 37) 600 = true then nX (pX X (28) (upd (X (28)) (X (0) 37).toNatClampNeg (X (0) 41))) fun X1 => (if okI (X1 (0) 37) 600 = true then nX (pX X1 (29) (upd (X1 (29)) (X1 (0) 37).toNatClampNeg v2)) fun X2 => (if okI (X2 (0) 37) 600 = true then nX (pX X2 (30) (upd (X2 (30)) (X2 (0) 37).toNatClampNeg (vp_nar .boolean (0)))) fun X3 => nX (pX X3 (0) (upd (X3 (0)) 37 ((X3 (0) 37) + (1)))) fun X4 => (if okI v2 60 = true then nX (pX X4 (31) (upd (X4 (31)) v2.toNatClampNeg (vp_nar .boolean (0)))) fun X5 => b_X11_indexes_73 rec4 X5 (1) v2 else none) else none) else none) else none)) else none))
def l_X11_indexes_4 : JX → Int32 → Int32 → Option JX := loop3 (lb_X11_indexes_4 ) 1000
def f_X11_indexes (X : JX) : Option JX := l_X11_indexes_4 X (0) (0)
def f_X11_isFolderAt (X : JX) (v1 : Int32) : Option Int32 := (f_X11_isNode X v1).bind fun t1 => (if t1 = 0 then some (0) else (if okI v1 60 = true then (if (X (2) v1.toNatClampNeg) = 0 then some (0) else some (1)) else none))
def f_X11_isQuiet (X : JX) : Option (Int32 × JX) := nX (pX X (0) (upd (X (0)) 0 (0))) fun X1 => (if ¬ (X1 (0) 30) = 0 then some (0, X1) else (f_X11_firstNoticed X1 ).bind fun t2 => (if ¬ t2 = -1 then some (0, X1) else (f_X11_firstCrawl X1 ).bind fun t3 => (if ¬ t3 = -1 then some (0, X1) else some (1, X1))))
def b_X11_isTaken_63 (rec6 : Int32 → Int32 → Option Int32) (X : JX) (v1 : Int32) (v2 : Int32) (v3 : Int32) (v5 : Int32) (s0 : Int32) : Option Int32 := nV (v5 + 1) fun t1 => rec6 s0 t1
def lb_X11_isTaken_6 (X : JX) (v1 : Int32) (v2 : Int32) (v3 : Int32) (rec6 : Int32 → Int32 → Option Int32) (v4 : Int32) (v5 : Int32) : Option Int32 := (if (X (0) 2) ≤ v5 then (if okB v4 = true then some v4 else none) else (if ¬ v4 = 0 then b_X11_isTaken_63 rec6 X v1 v2 v3 v5 (1) else (if v5 = v3 then b_X11_isTaken_63 rec6 X v1 v2 v3 v5 (0) else (if okI v5 60 = true then (if (X (1) v5.toNatClampNeg) = 0 then b_X11_isTaken_63 rec6 X v1 v2 v3 v5 (0) else (if okI v5 60 = true then (if ¬ (X (3) v5.toNatClampNeg) = v1 then b_X11_isTaken_63 rec6 X v1 v2 v3 v5 (0) else (if okI v5 60 = true then (if ¬ (X (4) v5.toNatClampNeg) = v2 then b_X11_isTaken_63 rec6 X v1 v2 v3 v5 (0) else b_X11_isTaken_63 rec6 X v1 v2 v3 v5 (1)) else none)) else none)) else none))))
def l_X11_isTaken_6 (X : JX) (v1 : Int32) (v2 : Int32) (v3 : Int32) : Int32 → Int32 → Option Int32 := loop2 (lb_X11_isTaken_6 X v1 v2 v3) 1000
def f_X11_isTaken (X : JX) (v1 : Int32) (v2 : Int32) (v3 : Int32) : Option Int32 := l_X11_isTaken_6 X v1 v2 v3 (0) (0)
def b_X11_limits_25 (X : JX) (v1 : Int32) (v2 : Int32) (s0 : Int32) : Option (Int32 × JX) := nX (pX X (0) (upd (X (0)) 0 s0)) fun X3 => (if (X3 (0) 0) ≤ 0 then nV (X3 (0) 29) fun t4 => nX (pX X3 (0) (upd (X3 (0)) 28 v1)) fun X5 => nX (pX X5 (0) (upd (X5 (0)) 29 v2)) fun X6 => some (t4, X6) else some (0, X3))
def f_X11_limits (X : JX) (v1 : Int32) (v2 : Int32) : Option (Int32 × JX) := (f_X11_in X v1 (0) (3)).bind fun t1 => (if t1 = 0 then b_X11_limits_25 X v1 v2 (1) else (f_X11_in X v2 (1) (20)).bind fun t2 => (if t2 = 0 then b_X11_limits_25 X v1 v2 (1) else b_X11_limits_25 X v1 v2 (0)))
def b_X11_lock_14 (X : JX) (v1 : Int32) (v2 : Int32) (s0 : Int32) : Option (Int32 × JX) := nX (pX X (0) (upd (X (0)) 0 s0)) fun X2 => (if (X2 (0) 0) ≤ 0 then (if okI v1 60 = true then nV (X2 (8) v1.toNatClampNeg) fun t3 => (if okI v1 60 = true then nX (pX X2 (8) (upd (X2 (8)) v1.toNatClampNeg (vp_nar .boolean v2))) fun X4 => (if okB t3 = true then some (t3, X4) else none) else none) else none) else some (0, X2))
def f_X11_lock (X : JX) (v1 : Int32) (v2 : Int32) : Option (Int32 × JX) := (f_X11_isFileAt X v1).bind fun t1 => (if t1 = 0 then b_X11_lock_14 X v1 v2 (1) else b_X11_lock_14 X v1 v2 (0))
def b_X11_looksAtLost_25 (rec2 : JX → Int32 → Option JX) (X : JX) (v1 : Int32) : Option JX := nV (v1 + 1) fun t2 => rec2 X t2
def lb_X11_looksAtLost_2 (rec2 : JX → Int32 → Option JX) (X : JX) (v1 : Int32) : Option JX := (if (X (0) 2) ≤ v1 then some X else (if okI v1 60 = true then (if (X (19) v1.toNatClampNeg) = 0 then b_X11_looksAtLost_25 rec2 X v1 else (f_X11_adds X v1 (1)).bind fun X1 => b_X11_looksAtLost_25 rec2 X1 v1) else none))
def l_X11_looksAtLost_2 : JX → Int32 → Option JX := loop2 (lb_X11_looksAtLost_2 ) 1000
def f_X11_looksAtLost (X : JX) : Option JX := l_X11_looksAtLost_2 X (0)
def b_X11_lose_70 (X : JX) (v3 : Int32) (s0 : Int32) (s1 : Int32) (s2 : Int32) : Option (Int32 × JX) := (if okI s2 4 = true then nX (pX X (11) (upd (X (11)) s2.toNatClampNeg (s1 - s0))) fun X4 => (if okI v3 4 = true then some ((X4 (11) v3.toNatClampNeg), X4) else none) else none)
def b_X11_lose_31 (X : JX) (v2 : Int32) (v3 : Int32) (s0 : Int32) : Option (Int32 × JX) := nX (pX X (0) (upd (X (0)) 0 s0)) fun X3 => (if (X3 (0) 0) ≤ 0 then (if okI v3 4 = true then (if okI v3 4 = true then (if (X3 (11) v3.toNatClampNeg) ≤ v2 then (if okI v3 4 = true then b_X11_lose_70 X3 v3 (X3 (11) v3.toNatClampNeg) (X3 (11) v3.toNatClampNeg) v3 else none) else b_X11_lose_70 X3 v3 v2 (X3 (11) v3.toNatClampNeg) v3) else none) else none) else some (0, X3))
def f_X11_lose (X : JX) (v1 : Int32) (v2 : Int32) : Option (Int32 × JX) := (f_X11_rootAt X v1).bind fun t1 => (if ¬ t1 = -1 then (f_X11_in X v2 (1) (8)).bind fun t2 => (if t2 = 0 then b_X11_lose_31 X v2 t1 (2) else b_X11_lose_31 X v2 t1 (0)) else b_X11_lose_31 X v2 t1 (1))
def b_X11_make_54 (X : JX) (v1 : Int32) (v2 : Int32) (v3 : Int32) (s0 : Int32) : Option (Int32 × JX) := nX (pX X (0) (upd (X (0)) 0 s0)) fun X5 => (if (X5 (0) 0) ≤ 0 then nV (X5 (0) 2) fun t6 => (if okI t6 60 = true then nX (pX X5 (1) (upd (X5 (1)) t6.toNatClampNeg (vp_nar .boolean (1)))) fun X7 => (if okI t6 60 = true then nX (pX X7 (2) (upd (X7 (2)) t6.toNatClampNeg (vp_nar .boolean v3))) fun X8 => (if okI t6 60 = true then nX (pX X8 (3) (upd (X8 (3)) t6.toNatClampNeg v1)) fun X9 => (if okI t6 60 = true then nX (pX X9 (4) (upd (X9 (4)) t6.toNatClampNeg (vp_nar .char v2))) fun X10 => (if okI t6 60 = true then nX (pX X10 (5) (upd (X10 (5)) t6.toNatClampNeg (1))) fun X11 => (if okI t6 60 = true then nX (pX X11 (9) (upd (X11 (9)) t6.toNatClampNeg (15))) fun X12 => nX (pX X12 (0) (upd (X12 (0)) 2 ((X12 (0) 2) + (1)))) fun X13 => (f_X11_over X13 t6).bind fun t14 => (f_X11_comes X13 t14 (0) t6).bind fun X15 => some (t6, X15) else none) else none) else none) else none) else none) else none) else some (0, X5))
def f_X11_make (X : JX) (v1 : Int32) (v2 : Int32) (v3 : Int32) : Option (Int32 × JX) := (f_X11_isFolderAt X v1).bind fun t1 => (if ¬ t1 = 0 then (f_X11_in X v2 (97) (122)).bind fun t2 => (if ¬ t2 = 0 then (f_X11_isTaken X v1 v2 (-1)).bind fun t3 => (if ¬ t3 = 0 then b_X11_make_54 X v1 v2 v3 (3) else (if ¬ (X (0) 2) = 60 then b_X11_make_54 X v1 v2 v3 (0) else b_X11_make_54 X v1 v2 v3 (3))) else b_X11_make_54 X v1 v2 v3 (2)) else (f_X11_fails X (1)).bind fun t4 => some (t4.1, t4.2))
def b_X11_mayRead_23 (X : JX) (v1 : Int32) (v2 : Int32) (s0 : Int32) : Option (Int32 × JX) := nX (pX X (0) (upd (X (0)) 0 s0)) fun X3 => (if ¬ (X3 (0) 0) = 0 then some (0, X3) else (f_X11_mayReadAt X3 v1 v2).bind fun t4 => (if t4 = 0 then some (0, X3) else some (1, X3)))
def f_X11_mayRead (X : JX) (v1 : Int32) (v2 : Int32) : Option (Int32 × JX) := (f_X11_in X v1 (0) (3)).bind fun t1 => (if t1 = 0 then b_X11_mayRead_23 X v1 v2 (1) else (f_X11_isNode X v2).bind fun t2 => (if t2 = 0 then b_X11_mayRead_23 X v1 v2 (1) else b_X11_mayRead_23 X v1 v2 (0)))
def b_X11_move_20 (X : JX) : Option (Int32 × JX) := (f_X11_fails X (1)).bind fun t4 => some (t4.1, t4.2)
def b_X11_move_184 (X : JX) (v1 : Int32) (v6 : Int32) (v8 : Int32) : Option (Int32 × JX) := (f_X11_comes X v8 (0) v1).bind fun X17 => some (v6, X17)
def b_X11_move_121 (X : JX) (v1 : Int32) (v2 : Int32) (v3 : Int32) (s0 : Int32) : Option (Int32 × JX) := nX (pX X (0) (upd (X (0)) 0 s0)) fun X10 => (if (X10 (0) 0) ≤ 0 then (if okI v1 60 = true then nV (X10 (3) v1.toNatClampNeg) fun t11 => (f_X11_over X10 v1).bind fun t12 => (if okI v1 60 = true then nX (pX X10 (3) (upd (X10 (3)) v1.toNatClampNeg v2)) fun X13 => (if okI v1 60 = true then nX (pX X13 (4) (upd (X13 (4)) v1.toNatClampNeg (vp_nar .char v3))) fun X14 => (f_X11_over X14 v1).bind fun t15 => (if t12 = t15 then b_X11_move_184 X14 v1 t11 t15 else (f_X11_comes X14 t12 (2) v1).bind fun X16 => b_X11_move_184 X16 v1 t11 t15) else none) else none) else none) else some (0, X10))
def b_X11_move_78 (X : JX) (v1 : Int32) (v2 : Int32) (v3 : Int32) (v4 : Int32) (s0 : Int32) : Option (Int32 × JX) := (f_X11_in X v3 (97) (122)).bind fun t8 => (if ¬ t8 = 0 then (if ¬ v4 = 0 then b_X11_move_121 X v1 v2 v3 (3) else (f_X11_isTaken X v2 v3 v1).bind fun t9 => (if ¬ t9 = 0 then b_X11_move_121 X v1 v2 v3 (3) else (if s0 = 0 then b_X11_move_121 X v1 v2 v3 (0) else b_X11_move_121 X v1 v2 v3 (3)))) else b_X11_move_121 X v1 v2 v3 (2))
def b_X11_move_45 (X : JX) (v1 : Int32) (v2 : Int32) (v3 : Int32) (s0 : Int32) : Option (Int32 × JX) := (f_X11_holdsRoot X v1).bind fun t5 => (if t5 = 0 then b_X11_move_78 X v1 v2 v3 s0 (0) else (f_X11_rootAt X v2).bind fun t6 => (if ¬ t6 = -1 then b_X11_move_78 X v1 v2 v3 s0 (1) else (f_X11_over X v2).bind fun t7 => (if t7 = -1 then b_X11_move_78 X v1 v2 v3 s0 (0) else b_X11_move_78 X v1 v2 v3 s0 (1))))
def f_X11_move (X : JX) (v1 : Int32) (v2 : Int32) (v3 : Int32) : Option (Int32 × JX) := (f_X11_isNode X v1).bind fun t1 => (if t1 = 0 then b_X11_move_20 X else (if v1 = 0 then b_X11_move_20 X else (f_X11_isFolderAt X v2).bind fun t2 => (if ¬ t2 = 0 then (if v2 = v1 then b_X11_move_45 X v1 v2 v3 (1) else (f_X11_isBelow X v2 v1).bind fun t3 => (if t3 = 0 then b_X11_move_45 X v1 v2 v3 (0) else b_X11_move_45 X v1 v2 v3 (1))) else b_X11_move_20 X)))
def b_X11_nodes_32 (rec9 : Int32 → Int32 → Option (Int32 × JX)) (X : JX) (v2 : Int32) (s0 : Int32) (s1 : Int32) : Option (Int32 × JX) := nV (s1 + s0) fun t2 => nV (v2 + 1) fun t3 => rec9 t2 t3
def lb_X11_nodes_9 (X : JX) (rec9 : Int32 → Int32 → Option (Int32 × JX)) (v1 : Int32) (v2 : Int32) : Option (Int32 × JX) := (if (X (0) 2) ≤ v2 then some (v1, X) else (if okI v2 60 = true then (if (X (1) v2.toNatClampNeg) = 0 then b_X11_nodes_32 rec9 X v2 (0) v1 else b_X11_nodes_32 rec9 X v2 (1) v1) else none))
def l_X11_nodes_9 (X : JX) : Int32 → Int32 → Option (Int32 × JX) := loop2 (lb_X11_nodes_9 X) 1000
def f_X11_nodes (X : JX) : Option (Int32 × JX) := nX (pX X (0) (upd (X (0)) 0 (0))) fun X1 => l_X11_nodes_9 X1 (0) (0)
def b_X11_notices_35 (X : JX) (v2 : Int32) (s0 : Int32) : Option (Int32 × JX) := nX (pX X (0) (upd (X (0)) 0 s0)) fun X3 => (if (X3 (0) 0) ≤ 0 then (if okI v2 4 = true then (if (X3 (14) v2.toNatClampNeg) = 0 then (if okI v2 4 = true then some ((X3 (11) v2.toNatClampNeg), X3) else none) else some (-1, X3)) else none) else some (0, X3))
def b_X11_notices_23 (X : JX) (s0 : Int32) : Option (Int32 × JX) := (if ¬ s0 = -1 then b_X11_notices_35 X s0 (0) else b_X11_notices_35 X s0 (1))
def f_X11_notices (X : JX) (v1 : Int32) : Option (Int32 × JX) := (f_X11_in X v1 (0) ((X (0) 2) - (1))).bind fun t1 => (if t1 = 0 then b_X11_notices_23 X (-1) else (f_X11_rootAt X v1).bind fun t2 => b_X11_notices_23 X t2)
def b_X11_pass_52 (X : JX) (s0 : Int32) (s1 : Int32) : Option (Int32 × JX) := nX (pX X (0) (upd (X (0)) 1 (s1 + s0))) fun X3 => (if (X3 (0) 0) ≤ 0 then some ((X3 (0) 1), X3) else some (0, X3))
def b_X11_pass_32 (X : JX) (v1 : Int32) (s0 : Int32) : Option (Int32 × JX) := nX (pX X (0) (upd (X (0)) 0 s0)) fun X2 => (if ¬ (X2 (0) 0) = 0 then b_X11_pass_52 X2 (0) (X2 (0) 1) else b_X11_pass_52 X2 v1 (X2 (0) 1))
def f_X11_pass (X : JX) (v1 : Int32) : Option (Int32 × JX) := (f_X11_in X v1 (1) (1000)).bind fun t1 => (if ¬ t1 = 0 then (if ((X (0) 1) + v1) ≤ 100000 then b_X11_pass_32 X v1 (0) else b_X11_pass_32 X v1 (2)) else b_X11_pass_32 X v1 (1))
def b_X11_people_28 (X : JX) (v1 : Int32) (v2 : Int32) (s0 : Int32) : Option (Int32 × JX) := nX (pX X (0) (upd (X (0)) 0 s0)) fun X3 => (if (X3 (0) 0) ≤ 0 then (if okI v1 60 = true then nV (X3 (9) v1.toNatClampNeg) fun t4 => (if okI v1 60 = true then nX (pX X3 (9) (upd (X3 (9)) v1.toNatClampNeg v2)) fun X5 => some (t4, X5) else none) else none) else some (0, X3))
def f_X11_people (X : JX) (v1 : Int32) (v2 : Int32) : Option (Int32 × JX) := (f_X11_isNode X v1).bind fun t1 => (if ¬ t1 = 0 then (f_X11_in X v2 (0) (15)).bind fun t2 => (if t2 = 0 then b_X11_people_28 X v1 v2 (2) else b_X11_people_28 X v1 v2 (0)) else b_X11_people_28 X v1 v2 (1))
def b_X11_remove_194 (rec168 : JX → Int32 → Option (Int32 × JX)) (X : JX) (v2 : Int32) (v3 : Int32) (v4 : Int32) : Option (Int32 × JX) := nV (v4 + (-1)) fun t15 => rec168 X t15
def lb_X11_remove_168 (v2 : Int32) (v3 : Int32) (rec168 : JX → Int32 → Option (Int32 × JX)) (X : JX) (v4 : Int32) : Option (Int32 × JX) := (if v4 < 0 then (if v3 ≤ (X (0) 12) then some (v2, X) else (f_X11_looksAtLost X ).bind fun X9 => some (v2, X9)) else (if okI v4 4 = true then (if okI (X (10) v4.toNatClampNeg) 60 = true then (if ¬ (X (1) (X (10) v4.toNatClampNeg).toNatClampNeg) = 0 then b_X11_remove_194 rec168 X v2 v3 v4 else (f_X11_drops X v4).bind fun X10 => b_X11_remove_194 rec168 X10 v2 v3 v4) else none) else none))
def l_X11_remove_168 (v2 : Int32) (v3 : Int32) : JX → Int32 → Option (Int32 × JX) := loop2 (lb_X11_remove_168 v2 v3) 1000
def b_X11_remove_148 (rec112 : JX → Int32 → Option (Int32 × JX)) (X : JX) (v2 : Int32) (v3 : Int32) (s0 : Int32) (s1 : Int32) : Option (Int32 × JX) := (if okI s1 60 = true then nX (pX X (1) (upd (X (1)) s1.toNatClampNeg (vp_nar .boolean s0))) fun X11 => nV (v3 + 1) fun t12 => rec112 X11 t12 else none)
def lb_X11_remove_112 (v2 : Int32) (rec112 : JX → Int32 → Option (Int32 × JX)) (X : JX) (v3 : Int32) : Option (Int32 × JX) := (if (X (0) 2) ≤ v3 then nV (X (0) 12) fun t6 => nV ((X (0) 12) - (1)) fun t7 => l_X11_remove_168 v2 t6 X t7 else (if okI v3 60 = true then (if (X (1) v3.toNatClampNeg) = 0 then b_X11_remove_148 rec112 X v2 v3 (0) v3 else (if okI v3 60 = true then (if ¬ (X (32) v3.toNatClampNeg) = 0 then b_X11_remove_148 rec112 X v2 v3 (0) v3 else b_X11_remove_148 rec112 X v2 v3 (1) v3) else none)) else none))
def l_X11_remove_112 (v2 : Int32) : JX → Int32 → Option (Int32 × JX) := loop2 (lb_X11_remove_112 v2) 1000
def b_X11_remove_102 (rec45 : JX → Int32 → Int32 → Option (Int32 × JX)) (X : JX) (v1 : Int32) (v3 : Int32) (s0 : Int32) (s1 : Int32) : Option (Int32 × JX) := nV (s1 + s0) fun t13 => nV (v3 + 1) fun t14 => rec45 X t13 t14
def b_X11_remove_86 (rec45 : JX → Int32 → Int32 → Option (Int32 × JX)) (X : JX) (v1 : Int32) (v2 : Int32) (v3 : Int32) (s0 : Int32) (s1 : Int32) : Option (Int32 × JX) := (if okI s1 60 = true then nX (pX X (32) (upd (X (32)) s1.toNatClampNeg (vp_nar .boolean s0))) fun X8 => (if okI v3 60 = true then (if (X8 (32) v3.toNatClampNeg) = 0 then b_X11_remove_102 rec45 X8 v1 v3 (0) v2 else b_X11_remove_102 rec45 X8 v1 v3 (1) v2) else none) else none)
def lb_X11_remove_45 (v1 : Int32) (rec45 : JX → Int32 → Int32 → Option (Int32 × JX)) (X : JX) (v2 : Int32) (v3 : Int32) : Option (Int32 × JX) := (if (X (0) 2) ≤ v3 then l_X11_remove_112 v2 X (0) else (if okI v3 60 = true then (if (X (1) v3.toNatClampNeg) = 0 then b_X11_remove_86 rec45 X v1 v2 v3 (0) v3 else (if v3 = v1 then b_X11_remove_86 rec45 X v1 v2 v3 (1) v3 else (f_X11_isBelow X v3 v1).bind fun t5 => (if t5 = 0 then b_X11_remove_86 rec45 X v1 v2 v3 (0) v3 else b_X11_remove_86 rec45 X v1 v2 v3 (1) v3))) else none))
def l_X11_remove_45 (v1 : Int32) : JX → Int32 → Int32 → Option (Int32 × JX) := loop3 (lb_X11_remove_45 v1) 1000
def b_X11_remove_18 (X : JX) (v1 : Int32) (s0 : Int32) : Option (Int32 × JX) := nX (pX X (0) (upd (X (0)) 0 s0)) fun X2 => (if (X2 (0) 0) ≤ 0 then (f_X11_over X2 v1).bind fun t3 => (f_X11_comes X2 t3 (2) v1).bind fun X4 => l_X11_remove_45 v1 X4 (0) (0) else some (0, X2))
def f_X11_remove (X : JX) (v1 : Int32) : Option (Int32 × JX) := (f_X11_isNode X v1).bind fun t1 => (if t1 = 0 then b_X11_remove_18 X v1 (1) else (if v1 = 0 then b_X11_remove_18 X v1 (1) else b_X11_remove_18 X v1 (0)))
def f_X11_segments (X : JX) : Option (Int32 × JX) := nX (pX X (0) (upd (X (0)) 0 (0))) fun X1 => some ((X1 (0) 41), X1)
def b_X11_stale_80 (rec9 : Int32 → Int32 → Option (Int32 × JX)) (X : JX) (v2 : Int32) (s0 : Int32) (s1 : Int32) : Option (Int32 × JX) := nV (s1 + s0) fun t5 => nV (v2 + 1) fun t6 => rec9 t5 t6
def b_X11_stale_59 (rec9 : Int32 → Int32 → Option (Int32 × JX)) (X : JX) (v2 : Int32) (v3 : Int32) (s0 : Int32) (s1 : Int32) : Option (Int32 × JX) := nV (s1 + s0) fun t4 => (if okI v2 60 = true then (if (X (19) v2.toNatClampNeg) = 0 then b_X11_stale_80 rec9 X v2 (0) t4 else (if ¬ v3 = 0 then b_X11_stale_80 rec9 X v2 (0) t4 else b_X11_stale_80 rec9 X v2 (1) t4)) else none)
def b_X11_stale_31 (rec9 : Int32 → Int32 → Option (Int32 × JX)) (X : JX) (v1 : Int32) (v2 : Int32) (s0 : Int32) : Option (Int32 × JX) := (if s0 = 0 then b_X11_stale_59 rec9 X v2 s0 (0) v1 else (if okI v2 60 = true then (if ¬ (X (2) v2.toNatClampNeg) = 0 then b_X11_stale_59 rec9 X v2 s0 (0) v1 else (f_X11_isKnown X v2).bind fun t3 => (if ¬ t3 = 0 then b_X11_stale_59 rec9 X v2 s0 (0) v1 else b_X11_stale_59 rec9 X v2 s0 (1) v1)) else none))
def lb_X11_stale_9 (X : JX) (rec9 : Int32 → Int32 → Option (Int32 × JX)) (v1 : Int32) (v2 : Int32) : Option (Int32 × JX) := (if (X (0) 2) ≤ v2 then some (v1, X) else (f_X11_over X v2).bind fun t2 => (if t2 = -1 then b_X11_stale_31 rec9 X v1 v2 (0) else b_X11_stale_31 rec9 X v1 v2 (1)))
def l_X11_stale_9 (X : JX) : Int32 → Int32 → Option (Int32 × JX) := loop2 (lb_X11_stale_9 X) 1000
def f_X11_stale (X : JX) : Option (Int32 × JX) := nX (pX X (0) (upd (X (0)) 0 (0))) fun X1 => l_X11_stale_9 X1 (0) (0)
def f_X11_thrown (X : JX) : Option Int32 := some (X (0) 0)
def b_X11_twice_30 (X : JX) (v2 : Int32) (s0 : Int32) : Option (Int32 × JX) := nX (pX X (0) (upd (X (0)) 0 s0)) fun X2 => (if (X2 (0) 0) ≤ 0 then (if okI v2 4 = true then (if okI ((((8) * v2) + (X2 (11) v2.toNatClampNeg)) - (1)) 32 = true then (if okI v2 4 = true then (if okI ((((8) * v2) + (X2 (11) v2.toNatClampNeg)) - (1)) 32 = true then (f_X11_comes X2 v2 (X2 (12) ((((8) * v2) + (X2 (11) v2.toNatClampNeg)) - (1)).toNatClampNeg) (X2 (13) ((((8) * v2) + (X2 (11) v2.toNatClampNeg)) - (1)).toNatClampNeg)).bind fun X3 => (if okI v2 4 = true then (if (X3 (14) v2.toNatClampNeg) = 0 then (if okI v2 4 = true then some ((X3 (11) v2.toNatClampNeg), X3) else none) else some (-1, X3)) else none) else none) else none) else none) else none) else some (0, X2))
def f_X11_twice (X : JX) (v1 : Int32) : Option (Int32 × JX) := (f_X11_rootAt X v1).bind fun t1 => (if ¬ t1 = -1 then (if okI t1 4 = true then (if ¬ (X (11) t1.toNatClampNeg) = 0 then b_X11_twice_30 X t1 (0) else b_X11_twice_30 X t1 (2)) else none) else b_X11_twice_30 X t1 (1))
def b_X11_watch_56 (X : JX) (v1 : Int32) (v2 : Int32) (s0 : Int32) : Option (Int32 × JX) := nX (pX X (0) (upd (X (0)) 0 s0)) fun X6 => (if (X6 (0) 0) ≤ 0 then (if ¬ v2 = -1 then (f_X11_drops X6 v2).bind fun X7 => (f_X11_looksAtLost X7 ).bind fun X8 => some ((X8 (0) 12), X8) else (if okI (X6 (0) 12) 4 = true then nX (pX X6 (10) (upd (X6 (10)) (X6 (0) 12).toNatClampNeg v1)) fun X9 => (if okI (X9 (0) 12) 4 = true then nX (pX X9 (11) (upd (X9 (11)) (X9 (0) 12).toNatClampNeg (0))) fun X10 => (if okI (X10 (0) 12) 4 = true then nX (pX X10 (14) (upd (X10 (14)) (X10 (0) 12).toNatClampNeg (vp_nar .boolean (0)))) fun X11 => nX (pX X11 (0) (upd (X11 (0)) 12 ((X11 (0) 12) + (1)))) fun X12 => (f_X11_beginsCrawl X12 ((X12 (0) 12) - (1))).bind fun X13 => some ((X13 (0) 12), X13) else none) else none) else none)) else some (0, X6))
def f_X11_watch (X : JX) (v1 : Int32) : Option (Int32 × JX) := (f_X11_isFolderAt X v1).bind fun t1 => (if ¬ t1 = 0 then (f_X11_rootAt X v1).bind fun t2 => (if ¬ t2 = -1 then b_X11_watch_56 X v1 t2 (0) else (if (X (0) 12) = 3 then b_X11_watch_56 X v1 t2 (2) else (f_X11_holdsRoot X v1).bind fun t3 => (if ¬ t3 = 0 then b_X11_watch_56 X v1 t2 (2) else (f_X11_over X v1).bind fun t4 => (if t4 = -1 then b_X11_watch_56 X v1 t2 (0) else b_X11_watch_56 X v1 t2 (2))))) else (f_X11_fails X (1)).bind fun t5 => some (t5.1, t5.2))
def lb_X11_work_151 (v3 : Int32) (rec151 : JX → Int32 → Option (Int32 × JX)) (X : JX) (v5 : Int32) : Option (Int32 × JX) := (if (X (0) 30) ≤ v5 then (f_X11_indexes X ).bind fun X9 => some (v3, X9) else (if okI v5 60 = true then nX (pX X (27) (upd (X (27)) v5.toNatClampNeg (vp_nar .boolean (0)))) fun X10 => nV (v5 + 1) fun t11 => rec151 X10 t11 else none))
def l_X11_work_151 (v3 : Int32) : JX → Int32 → Option (Int32 × JX) := loop2 (lb_X11_work_151 v3) 1000
def b_X11_work_144 (X : JX) (v3 : Int32) (s0 : Int32) (s1 : Int32) : Option (Int32 × JX) := nX (pX X (0) (upd (X (0)) 36 (s1 + s0))) fun X8 => l_X11_work_151 v3 X8 (0)
def lb_X11_work_105 (v2 : Int32) (rec105 : JX → Int32 → Int32 → Option (Int32 × JX)) (X : JX) (v3 : Int32) (v4 : Int32) : Option (Int32 × JX) := (if v4 ≤ 0 then (if (X (0) 34) = 0 then b_X11_work_144 X v3 (0) (X (0) 36) else b_X11_work_144 X v3 v3 (X (0) 36)) else nV (v3 + v4) fun t6 => (f_X11_does X (v2 - t6)).bind fun t7 => rec105 t7.2 t6 t7.1)
def l_X11_work_105 (v2 : Int32) : JX → Int32 → Int32 → Option (Int32 × JX) := loop3 (lb_X11_work_105 v2) 1000
def b_X11_work_95 (X : JX) (s0 : Int32) : Option (Int32 × JX) := (f_X11_does X s0).bind fun t5 => l_X11_work_105 s0 t5.2 (0) t5.1
def b_X11_work_52 (X : JX) (v1 : Int32) (s0 : Int32) : Option (Int32 × JX) := nX (pX X (0) (upd (X (0)) 36 s0)) fun X3 => nX (pX X3 (0) (upd (X3 (0)) 35 ((X3 (0) 1) / (60)))) fun X4 => (if (X4 (0) 34) = 0 then b_X11_work_95 X4 v1 else (if v1 ≤ ((20) - (X4 (0) 36)) then b_X11_work_95 X4 v1 else b_X11_work_95 X4 ((20) - (X4 (0) 36))))
def b_X11_work_17 (X : JX) (v1 : Int32) (s0 : Int32) : Option (Int32 × JX) := nX (pX X (0) (upd (X (0)) 0 s0)) fun X2 => (if (X2 (0) 0) ≤ 0 then (if ¬ (X2 (0) 35) = ((X2 (0) 1) / (60)) then b_X11_work_52 X2 v1 (0) else b_X11_work_52 X2 v1 (X2 (0) 36)) else some (0, X2))
def f_X11_work (X : JX) (v1 : Int32) : Option (Int32 × JX) := (f_X11_in X v1 (1) (500)).bind fun t1 => (if t1 = 0 then b_X11_work_17 X v1 (1) else b_X11_work_17 X v1 (0))
def b_X11_write_58 (X : JX) (v1 : Int32) (v2 : Int32) (s0 : Int32) : Option (Int32 × JX) := nX (pX X (0) (upd (X (0)) 0 s0)) fun X3 => (if (X3 (0) 0) ≤ 0 then (if okI v1 60 = true then (if okI (((20) * v1) + (X3 (6) v1.toNatClampNeg)) 1200 = true then nX (pX X3 (7) (upd (X3 (7)) (((20) * v1) + (X3 (6) v1.toNatClampNeg)).toNatClampNeg v2)) fun X4 => (if okI v1 60 = true then (if okI v1 60 = true then nX (pX X4 (6) (upd (X4 (6)) v1.toNatClampNeg ((X4 (6) v1.toNatClampNeg) + (1)))) fun X5 => (if okI v1 60 = true then (if okI v1 60 = true then nX (pX X5 (5) (upd (X5 (5)) v1.toNatClampNeg ((X5 (5) v1.toNatClampNeg) + (1)))) fun X6 => (f_X11_over X6 v1).bind fun t7 => (f_X11_comes X6 t7 (1) v1).bind fun X8 => (if okI v1 60 = true then some ((X8 (5) v1.toNatClampNeg), X8) else none) else none) else none) else none) else none) else none) else none) else some (0, X3))
def f_X11_write (X : JX) (v1 : Int32) (v2 : Int32) : Option (Int32 × JX) := (f_X11_isFileAt X v1).bind fun t1 => (if ¬ t1 = 0 then (f_X11_in X v2 (-3) (99)).bind fun t2 => (if t2 = 0 then b_X11_write_58 X v1 v2 (2) else (if ¬ v2 = -1 then (if okI v1 60 = true then (if ¬ (X (8) v1.toNatClampNeg) = 0 then b_X11_write_58 X v1 v2 (3) else (if okI v1 60 = true then (if ¬ (X (6) v1.toNatClampNeg) = 20 then b_X11_write_58 X v1 v2 (0) else b_X11_write_58 X v1 v2 (3)) else none)) else none) else b_X11_write_58 X v1 v2 (2))) else b_X11_write_58 X v1 v2 (1))
end
section
/-! ===== links, out of the tables (gen.py) ===== -/
theorem inX0 : ∀ w ∈ u_ws RX0 TX0 4, w ∈ lw_tbl := by decide +kernel
theorem guX0 : ∀ w ∈ u_ws RX0 TX0 4, goodWord w = true := by decide +kernel
theorem uwX0 : ∀ w ∈ u_ws RX0 TX0 4, w ∈ gTbl := fun w hw => List.mem_filter.mpr ⟨inX0 w hw, guX0 w hw⟩
theorem inX1 : ∀ w ∈ u_ws RX1 TX1 5, w ∈ lw_tbl := by decide +kernel
theorem guX1 : ∀ w ∈ u_ws RX1 TX1 5, goodWord w = true := by decide +kernel
theorem uwX1 : ∀ w ∈ u_ws RX1 TX1 5, w ∈ gTbl := fun w hw => List.mem_filter.mpr ⟨inX1 w hw, guX1 w hw⟩
theorem inX2 : ∀ w ∈ u_ws RX2 TX2 10, w ∈ lw_tbl := by decide +kernel
theorem guX2 : ∀ w ∈ u_ws RX2 TX2 10, goodWord w = true := by decide +kernel
theorem uwX2 : ∀ w ∈ u_ws RX2 TX2 10, w ∈ gTbl := fun w hw => List.mem_filter.mpr ⟨inX2 w hw, guX2 w hw⟩
theorem inX3 : ∀ w ∈ u_ws RX3 TX3 4, w ∈ lw_tbl := by decide +kernel
theorem guX3 : ∀ w ∈ u_ws RX3 TX3 4, goodWord w = true := by decide +kernel
theorem uwX3 : ∀ w ∈ u_ws RX3 TX3 4, w ∈ gTbl := fun w hw => List.mem_filter.mpr ⟨inX3 w hw, guX3 w hw⟩
theorem inX4 : ∀ w ∈ u_ws RX4 TX4 6, w ∈ lw_tbl := by decide +kernel
theorem guX4 : ∀ w ∈ u_ws RX4 TX4 6, goodWord w = true := by decide +kernel
theorem uwX4 : ∀ w ∈ u_ws RX4 TX4 6, w ∈ gTbl := fun w hw => List.mem_filter.mpr ⟨inX4 w hw, guX4 w hw⟩
theorem inX5 : ∀ w ∈ u_ws RX5 TX5 6, w ∈ lw_tbl := by decide +kernel
theorem guX5 : ∀ w ∈ u_ws RX5 TX5 6, goodWord w = true := by decide +kernel
theorem uwX5 : ∀ w ∈ u_ws RX5 TX5 6, w ∈ gTbl := fun w hw => List.mem_filter.mpr ⟨inX5 w hw, guX5 w hw⟩
theorem inX6 : ∀ w ∈ u_ws RX6 TX6 2, w ∈ lw_tbl := by decide +kernel
theorem guX6 : ∀ w ∈ u_ws RX6 TX6 2, goodWord w = true := by decide +kernel
theorem uwX6 : ∀ w ∈ u_ws RX6 TX6 2, w ∈ gTbl := fun w hw => List.mem_filter.mpr ⟨inX6 w hw, guX6 w hw⟩
theorem inX7 : ∀ w ∈ u_ws RX7 TX7 6, w ∈ lw_tbl := by decide +kernel
theorem guX7 : ∀ w ∈ u_ws RX7 TX7 6, goodWord w = true := by decide +kernel
theorem uwX7 : ∀ w ∈ u_ws RX7 TX7 6, w ∈ gTbl := fun w hw => List.mem_filter.mpr ⟨inX7 w hw, guX7 w hw⟩
theorem inX8 : ∀ w ∈ u_ws RX8 TX8 3, w ∈ lw_tbl := by decide +kernel
theorem guX8 : ∀ w ∈ u_ws RX8 TX8 3, goodWord w = true := by decide +kernel
theorem uwX8 : ∀ w ∈ u_ws RX8 TX8 3, w ∈ gTbl := fun w hw => List.mem_filter.mpr ⟨inX8 w hw, guX8 w hw⟩
theorem inX9 : ∀ w ∈ u_ws RX9 TX9 10, w ∈ lw_tbl := by decide +kernel
theorem guX9 : ∀ w ∈ u_ws RX9 TX9 10, goodWord w = true := by decide +kernel
theorem uwX9 : ∀ w ∈ u_ws RX9 TX9 10, w ∈ gTbl := fun w hw => List.mem_filter.mpr ⟨inX9 w hw, guX9 w hw⟩
theorem inX10 : ∀ w ∈ u_ws RX10 TX10 9, w ∈ lw_tbl := by decide +kernel
theorem guX10 : ∀ w ∈ u_ws RX10 TX10 9, goodWord w = true := by decide +kernel
theorem uwX10 : ∀ w ∈ u_ws RX10 TX10 9, w ∈ gTbl := fun w hw => List.mem_filter.mpr ⟨inX10 w hw, guX10 w hw⟩
theorem inX11 : ∀ w ∈ u_ws RX11 TX11 46, w ∈ lw_tbl := by decide +kernel
theorem guX11 : ∀ w ∈ u_ws RX11 TX11 46, goodWord w = true := by decide +kernel
theorem uwX11 : ∀ w ∈ u_ws RX11 TX11 46, w ∈ gTbl := fun w hw => List.mem_filter.mpr ⟨inX11 w hw, guX11 w hw⟩
theorem fl_X0_15 : FLk RX0 15 0 1 := ⟨_, rfl, Nat.le_of_ble_eq_true rfl, gTbl_at (i := 273) (by decide +kernel) rfl, uwX0, rfl⟩
theorem fl_X0_22 : FLk RX0 22 0 3 := ⟨_, rfl, Nat.le_of_ble_eq_true rfl, gTbl_at (i := 275) (by decide +kernel) rfl, uwX0, rfl⟩
theorem fl_X0_9 : FLk RX0 9 0 0 := ⟨_, rfl, Nat.le_of_ble_eq_true rfl, gTbl_at (i := 272) (by decide +kernel) rfl, uwX0, rfl⟩
theorem fp_X0_22 : FPk RX0 22 0 3 .int := ⟨_, tyX0, rfl, Nat.le_of_ble_eq_true rfl, gTbl_at (i := 275) (by decide +kernel) rfl, uwX0, rfl, tyX0_ok, nmX0, rfl, by decide +kernel⟩
theorem fl_X0_18 : FLk RX0 18 0 2 := ⟨_, rfl, Nat.le_of_ble_eq_true rfl, gTbl_at (i := 274) (by decide +kernel) rfl, uwX0, rfl⟩
theorem ml_X0_26 : MLk RX0 26 yX0_kindOf cX0_kindOf 2 (some .int) 1 := MLk.of 930 912 913 70 914 (by decide +kernel) (by decide +kernel) (by decide +kernel) (by decide +kernel) (by decide +kernel) ⟨(by decide +kernel), (by decide +kernel), (by decide +kernel)⟩
theorem ml_X0_30 : MLk RX0 30 yX0_takeAway cX0_takeAway 4 none 1 := MLk.of 926 927 928 70 929 (by decide +kernel) (by decide +kernel) (by decide +kernel) (by decide +kernel) (by decide +kernel) ⟨(by decide +kernel), (by decide +kernel), (by decide +kernel)⟩
theorem ml_X0_34 : MLk RX0 34 yX0_add cX0_add 3 none 2 := MLk.of 931 733 734 70 735 (by decide +kernel) (by decide +kernel) (by decide +kernel) (by decide +kernel) (by decide +kernel) ⟨(by decide +kernel), (by decide +kernel), (by decide +kernel)⟩
theorem fl_X1_19 : FLk RX1 19 1 2 := ⟨_, rfl, Nat.le_of_ble_eq_true rfl, gTbl_at (i := 152) (by decide +kernel) rfl, uwX1, rfl⟩
theorem fl_X1_15 : FLk RX1 15 1 1 := ⟨_, rfl, Nat.le_of_ble_eq_true rfl, gTbl_at (i := 151) (by decide +kernel) rfl, uwX1, rfl⟩
theorem fl_X1_22 : FLk RX1 22 1 3 := ⟨_, rfl, Nat.le_of_ble_eq_true rfl, gTbl_at (i := 153) (by decide +kernel) rfl, uwX1, rfl⟩
theorem fl_X1_9 : FLk RX1 9 1 0 := ⟨_, rfl, Nat.le_of_ble_eq_true rfl, gTbl_at (i := 150) (by decide +kernel) rfl, uwX1, rfl⟩
theorem fp_X1_22 : FPk RX1 22 1 3 .int := ⟨_, tyX1, rfl, Nat.le_of_ble_eq_true rfl, gTbl_at (i := 153) (by decide +kernel) rfl, uwX1, rfl, tyX1_ok, nmX1, rfl, by decide +kernel⟩
theorem fp_X1_26 : FPk RX1 26 1 4 .boolean := ⟨_, tyX1, rfl, Nat.le_of_ble_eq_true rfl, gTbl_at (i := 155) (by decide +kernel) rfl, uwX1, rfl, tyX1_ok, nmX1, rfl, by decide +kernel⟩
theorem ml_X1_30 : MLk RX1 30 yX1_letWait cX1_letWait 3 none 1 := MLk.of 814 815 816 66 817 (by decide +kernel) (by decide +kernel) (by decide +kernel) (by decide +kernel) (by decide +kernel) ⟨(by decide +kernel), (by decide +kernel), (by decide +kernel)⟩
theorem fl_X2_9 : FLk RX2 9 2 2 := ⟨_, rfl, Nat.le_of_ble_eq_true rfl, gTbl_at (i := 231) (by decide +kernel) rfl, uwX2, rfl⟩
theorem fl_X9_9 : FLk RX9 9 9 0 := ⟨_, rfl, Nat.le_of_ble_eq_true rfl, gTbl_at (i := 97) (by decide +kernel) rfl, uwX9, rfl⟩
theorem fl_X8_22 : FLk RX8 22 8 2 := ⟨_, rfl, Nat.le_of_ble_eq_true rfl, gTbl_at (i := 199) (by decide +kernel) rfl, uwX8, rfl⟩
theorem fl_X8_11 : FLk RX8 11 8 1 := ⟨_, rfl, Nat.le_of_ble_eq_true rfl, gTbl_at (i := 198) (by decide +kernel) rfl, uwX8, rfl⟩
theorem fn_X8_26 : FLn RX8 26 7 3 := ⟨_, rfl, Nat.le_of_ble_eq_true rfl, by decide +kernel, uwX7, rfl⟩
theorem ml_X8_29 : MLk RX8 29 yX8_find cX8_find 4 (some (.object "SearchKeeper$Root")) 1 := MLk.of 444 445 446 64 447 (by decide +kernel) (by decide +kernel) (by decide +kernel) (by decide +kernel) (by decide +kernel) ⟨(by decide +kernel), (by decide +kernel), (by decide +kernel)⟩
theorem fl_X8_17 : FLk RX8 17 8 0 := ⟨_, rfl, Nat.le_of_ble_eq_true rfl, gTbl_at (i := 197) (by decide +kernel) rfl, uwX8, rfl⟩
theorem ml_X8_33 : MLk RX8 33 yX9_parentOf cX9_parentOf 2 (some .int) 1 := MLk.of 436 437 438 63 439 (by decide +kernel) (by decide +kernel) (by decide +kernel) (by decide +kernel) (by decide +kernel) ⟨(by decide +kernel), (by decide +kernel), (by decide +kernel)⟩
theorem ml_X8_39 : MLk RX8 39 yX8_holding cX8_holding 5 (some (.object "SearchKeeper$Root")) 1 := MLk.of 440 441 442 64 443 (by decide +kernel) (by decide +kernel) (by decide +kernel) (by decide +kernel) (by decide +kernel) ⟨(by decide +kernel), (by decide +kernel), (by decide +kernel)⟩
theorem fl_X9_23 : FLk RX9 23 9 3 := ⟨_, rfl, Nat.le_of_ble_eq_true rfl, gTbl_at (i := 100) (by decide +kernel) rfl, uwX9, rfl⟩
theorem fl_X9_19 : FLk RX9 19 9 2 := ⟨_, rfl, Nat.le_of_ble_eq_true rfl, gTbl_at (i := 99) (by decide +kernel) rfl, uwX9, rfl⟩
theorem fl_X9_15 : FLk RX9 15 9 1 := ⟨_, rfl, Nat.le_of_ble_eq_true rfl, gTbl_at (i := 98) (by decide +kernel) rfl, uwX9, rfl⟩
theorem fl_X9_32 : FLk RX9 32 9 6 := ⟨_, rfl, Nat.le_of_ble_eq_true rfl, gTbl_at (i := 103) (by decide +kernel) rfl, uwX9, rfl⟩
theorem ml_X2_48 : MLk RX2 48 yX2_has cX2_has 2 (some .boolean) 1 := MLk.of 456 457 458 68 459 (by decide +kernel) (by decide +kernel) (by decide +kernel) (by decide +kernel) (by decide +kernel) ⟨(by decide +kernel), (by decide +kernel), (by decide +kernel)⟩
theorem fl_X2_15 : FLk RX2 15 2 3 := ⟨_, rfl, Nat.le_of_ble_eq_true rfl, gTbl_at (i := 232) (by decide +kernel) rfl, uwX2, rfl⟩
theorem fl_X2_40 : FLk RX2 40 2 0 := ⟨_, rfl, Nat.le_of_ble_eq_true rfl, gTbl_at (i := 229) (by decide +kernel) rfl, uwX2, rfl⟩
theorem ml_X2_52 : MLk RX2 52 yX9_parentOf cX9_parentOf 2 (some .int) 1 := MLk.of 460 437 438 63 439 (by decide +kernel) (by decide +kernel) (by decide +kernel) (by decide +kernel) (by decide +kernel) ⟨(by decide +kernel), (by decide +kernel), (by decide +kernel)⟩
theorem fl_X2_19 : FLk RX2 19 2 4 := ⟨_, rfl, Nat.le_of_ble_eq_true rfl, gTbl_at (i := 233) (by decide +kernel) rfl, uwX2, rfl⟩
theorem ml_X2_58 : MLk RX2 58 yX9_nameOf cX9_nameOf 2 (some .char) 1 := MLk.of 461 462 463 63 464 (by decide +kernel) (by decide +kernel) (by decide +kernel) (by decide +kernel) (by decide +kernel) ⟨(by decide +kernel), (by decide +kernel), (by decide +kernel)⟩
theorem ml_X2_62 : MLk RX2 62 yX9_isFile cX9_isFile 2 (some .boolean) 1 := MLk.of 448 449 450 63 451 (by decide +kernel) (by decide +kernel) (by decide +kernel) (by decide +kernel) (by decide +kernel) ⟨(by decide +kernel), (by decide +kernel), (by decide +kernel)⟩
theorem fl_X2_23 : FLk RX2 23 2 5 := ⟨_, rfl, Nat.le_of_ble_eq_true rfl, gTbl_at (i := 234) (by decide +kernel) rfl, uwX2, rfl⟩
theorem ml_X2_65 : MLk RX2 65 yX9_editionOf cX9_editionOf 2 (some .int) 1 := MLk.of 465 466 467 63 468 (by decide +kernel) (by decide +kernel) (by decide +kernel) (by decide +kernel) (by decide +kernel) ⟨(by decide +kernel), (by decide +kernel), (by decide +kernel)⟩
theorem fl_X2_44 : FLk RX2 44 2 1 := ⟨_, rfl, Nat.le_of_ble_eq_true rfl, gTbl_at (i := 230) (by decide +kernel) rfl, uwX2, rfl⟩
theorem ml_X2_68 : MLk RX2 68 yX8_above cX8_above 2 (some (.object "SearchKeeper$Root")) 1 := MLk.of 432 433 434 64 435 (by decide +kernel) (by decide +kernel) (by decide +kernel) (by decide +kernel) (by decide +kernel) ⟨(by decide +kernel), (by decide +kernel), (by decide +kernel)⟩
theorem ml_X2_74 : MLk RX2 74 yX2_isBehind cX2_isBehind 2 (some .boolean) 1 := MLk.of 452 453 454 68 455 (by decide +kernel) (by decide +kernel) (by decide +kernel) (by decide +kernel) (by decide +kernel) ⟨(by decide +kernel), (by decide +kernel), (by decide +kernel)⟩
theorem fl_X2_34 : FLk RX2 34 2 8 := ⟨_, rfl, Nat.le_of_ble_eq_true rfl, gTbl_at (i := 237) (by decide +kernel) rfl, uwX2, rfl⟩
theorem ml_X2_77 : MLk RX2 77 yX8_find cX8_find 4 (some (.object "SearchKeeper$Root")) 1 := MLk.of 970 445 446 64 447 (by decide +kernel) (by decide +kernel) (by decide +kernel) (by decide +kernel) (by decide +kernel) ⟨(by decide +kernel), (by decide +kernel), (by decide +kernel)⟩
theorem fl_X2_26 : FLk RX2 26 2 6 := ⟨_, rfl, Nat.le_of_ble_eq_true rfl, gTbl_at (i := 235) (by decide +kernel) rfl, uwX2, rfl⟩
theorem fl_X2_37 : FLk RX2 37 2 9 := ⟨_, rfl, Nat.le_of_ble_eq_true rfl, gTbl_at (i := 238) (by decide +kernel) rfl, uwX2, rfl⟩
theorem ml_X2_80 : MLk RX2 80 yX2_isBelow cX2_isBelow 6 (some .boolean) 2 := MLk.of 971 972 973 68 974 (by decide +kernel) (by decide +kernel) (by decide +kernel) (by decide +kernel) (by decide +kernel) ⟨(by decide +kernel), (by decide +kernel), (by decide +kernel)⟩
theorem fl_X2_31 : FLk RX2 31 2 7 := ⟨_, rfl, Nat.le_of_ble_eq_true rfl, gTbl_at (i := 236) (by decide +kernel) rfl, uwX2, rfl⟩
theorem fl_X3_21 : FLk RX3 21 3 3 := ⟨_, rfl, Nat.le_of_ble_eq_true rfl, gTbl_at (i := 294) (by decide +kernel) rfl, uwX3, rfl⟩
theorem fl_X3_15 : FLk RX3 15 3 1 := ⟨_, rfl, Nat.le_of_ble_eq_true rfl, gTbl_at (i := 292) (by decide +kernel) rfl, uwX3, rfl⟩
theorem fl_X3_18 : FLk RX3 18 3 2 := ⟨_, rfl, Nat.le_of_ble_eq_true rfl, gTbl_at (i := 293) (by decide +kernel) rfl, uwX3, rfl⟩
theorem fp_X3_21 : FPk RX3 21 3 3 .int := ⟨_, tyX3, rfl, Nat.le_of_ble_eq_true rfl, gTbl_at (i := 294) (by decide +kernel) rfl, uwX3, rfl, tyX3_ok, nmX3, rfl, by decide +kernel⟩
theorem ml_X3_25 : MLk RX3 25 yX2_hasGotEdition cX2_hasGotEdition 2 (some .boolean) 1 := MLk.of 1020 1021 1022 68 1023 (by decide +kernel) (by decide +kernel) (by decide +kernel) (by decide +kernel) (by decide +kernel) ⟨(by decide +kernel), (by decide +kernel), (by decide +kernel)⟩
theorem fl_X3_9 : FLk RX3 9 3 0 := ⟨_, rfl, Nat.le_of_ble_eq_true rfl, gTbl_at (i := 291) (by decide +kernel) rfl, uwX3, rfl⟩
theorem ml_X3_42 : MLk RX3 42 yX3_close cX3_close 3 none 1 := MLk.of 1033 1035 11 71 1036 (by decide +kernel) (by decide +kernel) (by decide +kernel) (by decide +kernel) (by decide +kernel) ⟨(by decide +kernel), (by decide +kernel), (by decide +kernel)⟩
theorem ml_X3_38 : MLk RX3 38 yX3_addSegment cX3_addSegment 3 none 1 := MLk.of 1029 1031 10 71 1032 (by decide +kernel) (by decide +kernel) (by decide +kernel) (by decide +kernel) (by decide +kernel) ⟨(by decide +kernel), (by decide +kernel), (by decide +kernel)⟩
theorem ml_X3_31 : MLk RX3 31 yX2_has cX2_has 2 (some .boolean) 1 := MLk.of 1024 457 458 68 459 (by decide +kernel) (by decide +kernel) (by decide +kernel) (by decide +kernel) (by decide +kernel) ⟨(by decide +kernel), (by decide +kernel), (by decide +kernel)⟩
theorem ml_X3_34 : MLk RX3 34 yX3_bury cX3_bury 3 none 1 := MLk.of 1025 1027 9 71 1028 (by decide +kernel) (by decide +kernel) (by decide +kernel) (by decide +kernel) (by decide +kernel) ⟨(by decide +kernel), (by decide +kernel), (by decide +kernel)⟩
theorem ml_X3_45 : MLk RX3 45 yX3_smallestPair cX3_smallestPair 5 (some .int) 0 := MLk.of 1037 1039 12 71 1040 (by decide +kernel) (by decide +kernel) (by decide +kernel) (by decide +kernel) (by decide +kernel) ⟨(by decide +kernel), (by decide +kernel), (by decide +kernel)⟩
theorem ml_X3_49 : MLk RX3 49 yX3_joinWithNext cX3_joinWithNext 3 none 1 := MLk.of 1041 1043 13 71 1044 (by decide +kernel) (by decide +kernel) (by decide +kernel) (by decide +kernel) (by decide +kernel) ⟨(by decide +kernel), (by decide +kernel), (by decide +kernel)⟩
theorem fl_X9_26 : FLk RX9 26 9 4 := ⟨_, rfl, Nat.le_of_ble_eq_true rfl, gTbl_at (i := 101) (by decide +kernel) rfl, uwX9, rfl⟩
theorem fl_X9_35 : FLk RX9 35 9 7 := ⟨_, rfl, Nat.le_of_ble_eq_true rfl, gTbl_at (i := 104) (by decide +kernel) rfl, uwX9, rfl⟩
theorem fl_X9_40 : FLk RX9 40 9 8 := ⟨_, rfl, Nat.le_of_ble_eq_true rfl, gTbl_at (i := 105) (by decide +kernel) rfl, uwX9, rfl⟩
theorem mm_X6_28 : Cond.methodLink RX6 28 Lib.Math.min.name ∈ gTbl ∧ Cond.static Lib.Math.min.name ∈ gTbl ∧ Cond.initialized "java/lang/Math" ∈ gTbl ∧ Cond.code Lib.Math.min.name Lib.Math.min.code 2 (some .int) ∈ gTbl := ⟨gTbl_at (i := 953) (by decide +kernel) rfl, gTbl_at (i := 954) (by decide +kernel) rfl, gTbl_at (i := 80) (by decide +kernel) rfl, gTbl_at (i := 955) (by decide +kernel) rfl⟩
theorem ms_X6_18 : MSk RX6 18 yX6_endOfWhole cX6_endOfWhole 6 (some .int) 2 := MSk.of 950 951 67 952 (by decide +kernel) (by decide +kernel) (by decide +kernel) (by decide +kernel) ⟨(by decide +kernel), (by decide +kernel), (by decide +kernel)⟩
theorem fl_X6_9 : FLk RX6 9 6 0 := ⟨_, rfl, Nat.le_of_ble_eq_true rfl, gTbl_at (i := 213) (by decide +kernel) rfl, uwX6, rfl⟩
theorem fl_X6_15 : FLk RX6 15 6 1 := ⟨_, rfl, Nat.le_of_ble_eq_true rfl, gTbl_at (i := 215) (by decide +kernel) rfl, uwX6, rfl⟩
theorem mm_X6_22 : Cond.methodLink RX6 22 Lib.Math.max.name ∈ gTbl ∧ Cond.static Lib.Math.max.name ∈ gTbl ∧ Cond.initialized "java/lang/Math" ∈ gTbl ∧ Cond.code Lib.Math.max.name Lib.Math.max.code 2 (some .int) ∈ gTbl := ⟨gTbl_at (i := 956) (by decide +kernel) rfl, gTbl_at (i := 857) (by decide +kernel) rfl, gTbl_at (i := 80) (by decide +kernel) rfl, gTbl_at (i := 858) (by decide +kernel) rfl⟩
theorem fl_X4_25 : FLk RX4 25 4 0 := ⟨_, rfl, Nat.le_of_ble_eq_true rfl, gTbl_at (i := 304) (by decide +kernel) rfl, uwX4, rfl⟩
theorem ml_X4_135 : MLk RX4 135 yX9_isLocked cX9_isLocked 2 (some .boolean) 1 := MLk.of 921 645 646 63 647 (by decide +kernel) (by decide +kernel) (by decide +kernel) (by decide +kernel) (by decide +kernel) ⟨(by decide +kernel), (by decide +kernel), (by decide +kernel)⟩
theorem fl_X4_37 : FLk RX4 37 4 3 := ⟨_, rfl, Nat.le_of_ble_eq_true rfl, gTbl_at (i := 307) (by decide +kernel) rfl, uwX4, rfl⟩
theorem ml_X4_141 : MLk RX4 141 yX2_editionOf cX2_editionOf 2 (some .int) 1 := MLk.of 932 933 934 68 935 (by decide +kernel) (by decide +kernel) (by decide +kernel) (by decide +kernel) (by decide +kernel) ⟨(by decide +kernel), (by decide +kernel), (by decide +kernel)⟩
theorem ml_X4_144 : MLk RX4 144 yX9_editionOf cX9_editionOf 2 (some .int) 1 := MLk.of 936 466 467 63 468 (by decide +kernel) (by decide +kernel) (by decide +kernel) (by decide +kernel) (by decide +kernel) ⟨(by decide +kernel), (by decide +kernel), (by decide +kernel)⟩
theorem ml_X4_145 : MLk RX4 145 yX9_lengthOf cX9_lengthOf 2 (some .int) 1 := MLk.of 937 649 650 63 651 (by decide +kernel) (by decide +kernel) (by decide +kernel) (by decide +kernel) (by decide +kernel) ⟨(by decide +kernel), (by decide +kernel), (by decide +kernel)⟩
theorem fl_X4_33 : FLk RX4 33 4 2 := ⟨_, rfl, Nat.le_of_ble_eq_true rfl, gTbl_at (i := 306) (by decide +kernel) rfl, uwX4, rfl⟩
theorem ml_X4_148 : MLk RX4 148 yX9_textOf cX9_textOf 2 (some (.array .int)) 1 := MLk.of 938 939 940 63 941 (by decide +kernel) (by decide +kernel) (by decide +kernel) (by decide +kernel) (by decide +kernel) ⟨(by decide +kernel), (by decide +kernel), (by decide +kernel)⟩
theorem ml_X4_152 : MLk RX4 152 yX2_wordsOf cX2_wordsOf 2 (some (.array .int)) 1 := MLk.of 942 943 944 68 945 (by decide +kernel) (by decide +kernel) (by decide +kernel) (by decide +kernel) (by decide +kernel) ⟨(by decide +kernel), (by decide +kernel), (by decide +kernel)⟩
theorem ml_X4_155 : MLk RX4 155 yX6_takeWords cX6_takeWords 9 (some .int) 3 := MLk.of 946 947 948 67 949 (by decide +kernel) (by decide +kernel) (by decide +kernel) (by decide +kernel) (by decide +kernel) ⟨(by decide +kernel), (by decide +kernel), (by decide +kernel)⟩
theorem ml_X4_161 : MLk RX4 161 yX2_keepEdition cX2_keepEdition 3 none 2 := MLk.of 957 958 959 68 960 (by decide +kernel) (by decide +kernel) (by decide +kernel) (by decide +kernel) (by decide +kernel) ⟨(by decide +kernel), (by decide +kernel), (by decide +kernel)⟩
theorem fl_X4_12 : FLk RX4 12 4 4 := ⟨_, rfl, Nat.le_of_ble_eq_true rfl, gTbl_at (i := 308) (by decide +kernel) rfl, uwX4, rfl⟩
theorem ml_X4_138 : MLk RX4 138 yX0_putOff cX0_putOff 2 none 1 := MLk.of 922 923 924 70 925 (by decide +kernel) (by decide +kernel) (by decide +kernel) (by decide +kernel) (by decide +kernel) ⟨(by decide +kernel), (by decide +kernel), (by decide +kernel)⟩
theorem ml_X4_164 : MLk RX4 164 yX2_keepPlace cX2_keepPlace 2 none 1 := MLk.of 961 962 963 68 964 (by decide +kernel) (by decide +kernel) (by decide +kernel) (by decide +kernel) (by decide +kernel) ⟨(by decide +kernel), (by decide +kernel), (by decide +kernel)⟩
theorem ml_X4_127 : MLk RX4 127 yX0_takeAway cX0_takeAway 4 none 1 := MLk.of 965 927 928 70 929 (by decide +kernel) (by decide +kernel) (by decide +kernel) (by decide +kernel) (by decide +kernel) ⟨(by decide +kernel), (by decide +kernel), (by decide +kernel)⟩
theorem ml_X4_167 : MLk RX4 167 yX9_parentOf cX9_parentOf 2 (some .int) 1 := MLk.of 979 437 438 63 439 (by decide +kernel) (by decide +kernel) (by decide +kernel) (by decide +kernel) (by decide +kernel) ⟨(by decide +kernel), (by decide +kernel), (by decide +kernel)⟩
theorem ml_X4_55 : MLk RX4 55 yX0_add cX0_add 3 none 2 := MLk.of 732 733 734 70 735 (by decide +kernel) (by decide +kernel) (by decide +kernel) (by decide +kernel) (by decide +kernel) ⟨(by decide +kernel), (by decide +kernel), (by decide +kernel)⟩
theorem ml_X4_112 : MLk RX4 112 yX0_kindOf cX0_kindOf 2 (some .int) 1 := MLk.of 911 912 913 70 914 (by decide +kernel) (by decide +kernel) (by decide +kernel) (by decide +kernel) (by decide +kernel) ⟨(by decide +kernel), (by decide +kernel), (by decide +kernel)⟩
theorem fl_X4_29 : FLk RX4 29 4 1 := ⟨_, rfl, Nat.le_of_ble_eq_true rfl, gTbl_at (i := 305) (by decide +kernel) rfl, uwX4, rfl⟩
theorem ml_X4_115 : MLk RX4 115 yX8_above cX8_above 2 (some (.object "SearchKeeper$Root")) 1 := MLk.of 915 433 434 64 435 (by decide +kernel) (by decide +kernel) (by decide +kernel) (by decide +kernel) (by decide +kernel) ⟨(by decide +kernel), (by decide +kernel), (by decide +kernel)⟩
theorem ml_X4_119 : MLk RX4 119 yX9_isFile cX9_isFile 2 (some .boolean) 1 := MLk.of 916 449 450 63 451 (by decide +kernel) (by decide +kernel) (by decide +kernel) (by decide +kernel) (by decide +kernel) ⟨(by decide +kernel), (by decide +kernel), (by decide +kernel)⟩
theorem ml_X4_124 : MLk RX4 124 yX4_lookAtFile cX4_lookAtFile 6 (some .int) 2 := MLk.of 917 919 4 69 920 (by decide +kernel) (by decide +kernel) (by decide +kernel) (by decide +kernel) (by decide +kernel) ⟨(by decide +kernel), (by decide +kernel), (by decide +kernel)⟩
theorem ml_X4_132 : MLk RX4 132 yX4_lookAtFolder cX4_lookAtFolder 3 none 1 := MLk.of 975 977 5 69 978 (by decide +kernel) (by decide +kernel) (by decide +kernel) (by decide +kernel) (by decide +kernel) ⟨(by decide +kernel), (by decide +kernel), (by decide +kernel)⟩
theorem ml_X4_131 : MLk RX4 131 yX2_takeAway cX2_takeAway 4 none 1 := MLk.of 966 967 968 68 969 (by decide +kernel) (by decide +kernel) (by decide +kernel) (by decide +kernel) (by decide +kernel) ⟨(by decide +kernel), (by decide +kernel), (by decide +kernel)⟩
theorem ml_X4_41 : MLk RX4 41 yX0_count cX0_count 1 (some .int) 0 := MLk.of 396 397 398 70 399 (by decide +kernel) (by decide +kernel) (by decide +kernel) (by decide +kernel) (by decide +kernel) ⟨(by decide +kernel), (by decide +kernel), (by decide +kernel)⟩
theorem fl_X4_21 : FLk RX4 21 4 5 := ⟨_, rfl, Nat.le_of_ble_eq_true rfl, gTbl_at (i := 309) (by decide +kernel) rfl, uwX4, rfl⟩
theorem ml_X4_46 : MLk RX4 46 yX3_countBuried cX3_countBuried 3 (some .int) 0 := MLk.of 489 490 491 71 492 (by decide +kernel) (by decide +kernel) (by decide +kernel) (by decide +kernel) (by decide +kernel) ⟨(by decide +kernel), (by decide +kernel), (by decide +kernel)⟩
theorem ml_X4_45 : MLk RX4 45 yX3_count cX3_count 1 (some .int) 0 := MLk.of 477 478 479 71 480 (by decide +kernel) (by decide +kernel) (by decide +kernel) (by decide +kernel) (by decide +kernel) ⟨(by decide +kernel), (by decide +kernel), (by decide +kernel)⟩
theorem ml_X9_47 : MLk RX9 47 yX9_parentOf cX9_parentOf 2 (some .int) 1 := MLk.of 688 437 438 63 439 (by decide +kernel) (by decide +kernel) (by decide +kernel) (by decide +kernel) (by decide +kernel) ⟨(by decide +kernel), (by decide +kernel), (by decide +kernel)⟩
theorem ml_X4_200 : MLk RX4 200 yX1_meet cX1_meet 2 none 1 := MLk.of 997 998 999 66 1000 (by decide +kernel) (by decide +kernel) (by decide +kernel) (by decide +kernel) (by decide +kernel) ⟨(by decide +kernel), (by decide +kernel), (by decide +kernel)⟩
theorem ml_X4_203 : MLk RX4 203 yX2_isBehind cX2_isBehind 2 (some .boolean) 1 := MLk.of 1001 453 454 68 455 (by decide +kernel) (by decide +kernel) (by decide +kernel) (by decide +kernel) (by decide +kernel) ⟨(by decide +kernel), (by decide +kernel), (by decide +kernel)⟩
theorem ml_X4_206 : MLk RX4 206 yX9_isFolder cX9_isFolder 2 (some .boolean) 1 := MLk.of 1002 504 505 63 506 (by decide +kernel) (by decide +kernel) (by decide +kernel) (by decide +kernel) (by decide +kernel) ⟨(by decide +kernel), (by decide +kernel), (by decide +kernel)⟩
theorem ml_X4_209 : MLk RX4 209 yX1_letWait cX1_letWait 3 none 1 := MLk.of 1003 815 816 66 817 (by decide +kernel) (by decide +kernel) (by decide +kernel) (by decide +kernel) (by decide +kernel) ⟨(by decide +kernel), (by decide +kernel), (by decide +kernel)⟩
theorem ml_X4_49 : MLk RX4 49 yX2_has cX2_has 2 (some .boolean) 1 := MLk.of 731 457 458 68 459 (by decide +kernel) (by decide +kernel) (by decide +kernel) (by decide +kernel) (by decide +kernel) ⟨(by decide +kernel), (by decide +kernel), (by decide +kernel)⟩
theorem ml_X4_212 : MLk RX4 212 yX1_hasMet cX1_hasMet 2 (some .boolean) 1 := MLk.of 1008 1009 1010 66 1011 (by decide +kernel) (by decide +kernel) (by decide +kernel) (by decide +kernel) (by decide +kernel) ⟨(by decide +kernel), (by decide +kernel), (by decide +kernel)⟩
theorem fn_X4_170 : FLn RX4 170 7 2 := ⟨_, rfl, Nat.le_of_ble_eq_true rfl, by decide +kernel, uwX7, rfl⟩
theorem ml_X4_174 : MLk RX4 174 yX1_takeFirst cX1_takeFirst 3 (some .int) 0 := MLk.of 988 989 990 66 991 (by decide +kernel) (by decide +kernel) (by decide +kernel) (by decide +kernel) (by decide +kernel) ⟨(by decide +kernel), (by decide +kernel), (by decide +kernel)⟩
theorem fn_X4_178 : FLn RX4 178 7 3 := ⟨_, rfl, Nat.le_of_ble_eq_true rfl, by decide +kernel, uwX7, rfl⟩
theorem ml_X4_182 : MLk RX4 182 yX9_isBelow cX9_isBelow 5 (some .boolean) 2 := MLk.of 992 685 686 63 687 (by decide +kernel) (by decide +kernel) (by decide +kernel) (by decide +kernel) (by decide +kernel) ⟨(by decide +kernel), (by decide +kernel), (by decide +kernel)⟩
theorem ml_X4_186 : MLk RX4 186 yX4_meetAllIn cX4_meetAllIn 4 none 2 := MLk.of 993 995 7 69 996 (by decide +kernel) (by decide +kernel) (by decide +kernel) (by decide +kernel) (by decide +kernel) ⟨(by decide +kernel), (by decide +kernel), (by decide +kernel)⟩
theorem fn_X4_190 : FLn RX4 190 1 3 := ⟨_, rfl, Nat.le_of_ble_eq_true rfl, by decide +kernel, uwX1, rfl⟩
theorem fq_X4_193 : FPn RX4 193 1 4 .boolean := ⟨_, tyX1, rfl, Nat.le_of_ble_eq_true rfl, by decide +kernel, uwX1, rfl, tyX1_ok, nmX1, rfl, by decide +kernel⟩
theorem ml_X4_196 : MLk RX4 196 yX4_lookAtUnmet cX4_lookAtUnmet 3 none 1 := MLk.of 1004 1006 8 69 1007 (by decide +kernel) (by decide +kernel) (by decide +kernel) (by decide +kernel) (by decide +kernel) ⟨(by decide +kernel), (by decide +kernel), (by decide +kernel)⟩
theorem fl_X7_29 : FLk RX7 29 7 4 := ⟨_, rfl, Nat.le_of_ble_eq_true rfl, gTbl_at (i := 180) (by decide +kernel) rfl, uwX7, rfl⟩
theorem fn_X8_46 : FLn RX8 46 7 5 := ⟨_, rfl, Nat.le_of_ble_eq_true rfl, by decide +kernel, uwX7, rfl⟩
theorem ml_X8_50 : MLk RX8 50 yX7_hasNotices cX7_hasNotices 1 (some .boolean) 0 := MLk.of 408 409 410 65 411 (by decide +kernel) (by decide +kernel) (by decide +kernel) (by decide +kernel) (by decide +kernel) ⟨(by decide +kernel), (by decide +kernel), (by decide +kernel)⟩
theorem fl_X7_21 : FLk RX7 21 7 2 := ⟨_, rfl, Nat.le_of_ble_eq_true rfl, gTbl_at (i := 173) (by decide +kernel) rfl, uwX7, rfl⟩
theorem fl_X7_25 : FLk RX7 25 7 3 := ⟨_, rfl, Nat.le_of_ble_eq_true rfl, gTbl_at (i := 176) (by decide +kernel) rfl, uwX7, rfl⟩
theorem ml_X7_39 : MLk RX7 39 yX1_startAnew cX1_startAnew 3 none 1 := MLk.of 810 811 812 66 813 (by decide +kernel) (by decide +kernel) (by decide +kernel) (by decide +kernel) (by decide +kernel) ⟨(by decide +kernel), (by decide +kernel), (by decide +kernel)⟩
theorem fl_X7_9 : FLk RX7 9 7 0 := ⟨_, rfl, Nat.le_of_ble_eq_true rfl, gTbl_at (i := 169) (by decide +kernel) rfl, uwX7, rfl⟩
theorem fl_X7_15 : FLk RX7 15 7 1 := ⟨_, rfl, Nat.le_of_ble_eq_true rfl, gTbl_at (i := 171) (by decide +kernel) rfl, uwX7, rfl⟩
theorem mm_X7_47 : Cond.methodLink RX7 47 Lib.Math.max.name ∈ gTbl ∧ Cond.static Lib.Math.max.name ∈ gTbl ∧ Cond.initialized "java/lang/Math" ∈ gTbl ∧ Cond.code Lib.Math.max.name Lib.Math.max.code 2 (some .int) ∈ gTbl := ⟨gTbl_at (i := 856) (by decide +kernel) rfl, gTbl_at (i := 857) (by decide +kernel) rfl, gTbl_at (i := 80) (by decide +kernel) rfl, gTbl_at (i := 858) (by decide +kernel) rfl⟩
theorem fp_X7_29 : FPk RX7 29 7 4 .int := ⟨_, tyX7, rfl, Nat.le_of_ble_eq_true rfl, gTbl_at (i := 180) (by decide +kernel) rfl, uwX7, rfl, tyX7_ok, nmX7, rfl, by decide +kernel⟩
theorem fn_X4_93 : FLn RX4 93 7 5 := ⟨_, rfl, Nat.le_of_ble_eq_true rfl, by decide +kernel, uwX7, rfl⟩
theorem fn_X4_102 : FLn RX4 102 7 1 := ⟨_, rfl, Nat.le_of_ble_eq_true rfl, by decide +kernel, uwX7, rfl⟩
theorem fn_X4_106 : FLn RX4 106 7 0 := ⟨_, rfl, Nat.le_of_ble_eq_true rfl, by decide +kernel, uwX7, rfl⟩
theorem fq_X4_93 : FPn RX4 93 7 5 .boolean := ⟨_, tyX7, rfl, Nat.le_of_ble_eq_true rfl, by decide +kernel, uwX7, rfl, tyX7_ok, nmX7, rfl, by decide +kernel⟩
theorem ml_X4_99 : MLk RX4 99 yX7_beginCrawl cX7_beginCrawl 1 none 0 := MLk.of 898 807 808 65 809 (by decide +kernel) (by decide +kernel) (by decide +kernel) (by decide +kernel) (by decide +kernel) ⟨(by decide +kernel), (by decide +kernel), (by decide +kernel)⟩
theorem ml_X4_109 : MLk RX4 109 yX7_takeFirst cX7_takeFirst 2 none 0 := MLk.of 899 900 901 65 902 (by decide +kernel) (by decide +kernel) (by decide +kernel) (by decide +kernel) (by decide +kernel) ⟨(by decide +kernel), (by decide +kernel), (by decide +kernel)⟩
theorem fn_X8_54 : FLn RX8 54 7 2 := ⟨_, rfl, Nat.le_of_ble_eq_true rfl, by decide +kernel, uwX7, rfl⟩
theorem fn_X8_58 : FLn RX8 58 1 4 := ⟨_, rfl, Nat.le_of_ble_eq_true rfl, by decide +kernel, uwX1, rfl⟩
theorem ml_X4_70 : MLk RX4 70 yX8_firstNoisy cX8_firstNoisy 3 (some (.object "SearchKeeper$Root")) 0 := MLk.of 893 405 406 64 407 (by decide +kernel) (by decide +kernel) (by decide +kernel) (by decide +kernel) (by decide +kernel) ⟨(by decide +kernel), (by decide +kernel), (by decide +kernel)⟩
theorem ml_X4_80 : MLk RX4 80 yX0_firstReady cX0_firstReady 3 (some .int) 0 := MLk.of 903 904 905 70 906 (by decide +kernel) (by decide +kernel) (by decide +kernel) (by decide +kernel) (by decide +kernel) ⟨(by decide +kernel), (by decide +kernel), (by decide +kernel)⟩
theorem ml_X4_87 : MLk RX4 87 yX8_firstCrawled cX8_firstCrawled 3 (some (.object "SearchKeeper$Root")) 0 := MLk.of 980 981 982 64 983 (by decide +kernel) (by decide +kernel) (by decide +kernel) (by decide +kernel) (by decide +kernel) ⟨(by decide +kernel), (by decide +kernel), (by decide +kernel)⟩
theorem ml_X4_90 : MLk RX4 90 yX4_crawlOn cX4_crawlOn 4 none 1 := MLk.of 984 986 6 69 987 (by decide +kernel) (by decide +kernel) (by decide +kernel) (by decide +kernel) (by decide +kernel) ⟨(by decide +kernel), (by decide +kernel), (by decide +kernel)⟩
theorem ml_X4_83 : MLk RX4 83 yX4_act cX4_act 5 (some .int) 2 := MLk.of 907 909 3 69 910 (by decide +kernel) (by decide +kernel) (by decide +kernel) (by decide +kernel) (by decide +kernel) ⟨(by decide +kernel), (by decide +kernel), (by decide +kernel)⟩
theorem ml_X4_76 : MLk RX4 76 yX4_hear cX4_hear 2 none 1 := MLk.of 894 896 2 69 897 (by decide +kernel) (by decide +kernel) (by decide +kernel) (by decide +kernel) (by decide +kernel) ⟨(by decide +kernel), (by decide +kernel), (by decide +kernel)⟩
theorem ml_X4_59 : MLk RX4 59 yX4_doNext cX4_doNext 5 (some .int) 1 := MLk.of 889 891 1 69 892 (by decide +kernel) (by decide +kernel) (by decide +kernel) (by decide +kernel) (by decide +kernel) ⟨(by decide +kernel), (by decide +kernel), (by decide +kernel)⟩
theorem ml_X4_63 : MLk RX4 63 yX0_endWork cX0_endWork 2 none 0 := MLk.of 1012 1013 1014 70 1015 (by decide +kernel) (by decide +kernel) (by decide +kernel) (by decide +kernel) (by decide +kernel) ⟨(by decide +kernel), (by decide +kernel), (by decide +kernel)⟩
theorem ml_X4_66 : MLk RX4 66 yX3_endWork cX3_endWork 3 none 1 := MLk.of 1016 1017 1018 71 1019 (by decide +kernel) (by decide +kernel) (by decide +kernel) (by decide +kernel) (by decide +kernel) ⟨(by decide +kernel), (by decide +kernel), (by decide +kernel)⟩
theorem ml_X4_69 : MLk RX4 69 yX2_endWork cX2_endWork 2 none 0 := MLk.of 1045 1046 1047 68 1048 (by decide +kernel) (by decide +kernel) (by decide +kernel) (by decide +kernel) (by decide +kernel) ⟨(by decide +kernel), (by decide +kernel), (by decide +kernel)⟩
theorem fl_X5_30 : FLk RX5 30 5 3 := ⟨_, rfl, Nat.le_of_ble_eq_true rfl, gTbl_at (i := 332) (by decide +kernel) rfl, uwX5, rfl⟩
theorem ml_X5_77 : MLk RX5 77 yX2_wordsOf cX2_wordsOf 2 (some (.array .int)) 1 := MLk.of 1099 943 944 68 945 (by decide +kernel) (by decide +kernel) (by decide +kernel) (by decide +kernel) (by decide +kernel) ⟨(by decide +kernel), (by decide +kernel), (by decide +kernel)⟩
theorem ml_X5_80 : MLk RX5 80 yX2_lengthOf cX2_lengthOf 2 (some .int) 1 := MLk.of 1100 1101 1102 68 1103 (by decide +kernel) (by decide +kernel) (by decide +kernel) (by decide +kernel) (by decide +kernel) ⟨(by decide +kernel), (by decide +kernel), (by decide +kernel)⟩
theorem mm_X5_81 : Cond.methodLink RX5 81 Lib.Math.min.name ∈ gTbl ∧ Cond.static Lib.Math.min.name ∈ gTbl ∧ Cond.initialized "java/lang/Math" ∈ gTbl ∧ Cond.code Lib.Math.min.name Lib.Math.min.code 2 (some .int) ∈ gTbl := ⟨gTbl_at (i := 1156) (by decide +kernel) rfl, gTbl_at (i := 954) (by decide +kernel) rfl, gTbl_at (i := 80) (by decide +kernel) rfl, gTbl_at (i := 955) (by decide +kernel) rfl⟩
theorem mm_X5_87 : Cond.methodLink RX5 87 Lib.Math.abs.name ∈ gTbl ∧ Cond.static Lib.Math.abs.name ∈ gTbl ∧ Cond.initialized "java/lang/Math" ∈ gTbl ∧ Cond.code Lib.Math.abs.name Lib.Math.abs.code 1 (some .int) ∈ gTbl := ⟨gTbl_at (i := 1157) (by decide +kernel) rfl, gTbl_at (i := 1158) (by decide +kernel) rfl, gTbl_at (i := 80) (by decide +kernel) rfl, gTbl_at (i := 1159) (by decide +kernel) rfl⟩
theorem fl_X9_29 : FLk RX9 29 9 5 := ⟨_, rfl, Nat.le_of_ble_eq_true rfl, gTbl_at (i := 102) (by decide +kernel) rfl, uwX9, rfl⟩
theorem ml_X9_51 : MLk RX9 51 yX9_peopleOf cX9_peopleOf 2 (some .int) 1 := MLk.of 779 757 758 63 759 (by decide +kernel) (by decide +kernel) (by decide +kernel) (by decide +kernel) (by decide +kernel) ⟨(by decide +kernel), (by decide +kernel), (by decide +kernel)⟩
theorem fl_X5_18 : FLk RX5 18 5 0 := ⟨_, rfl, Nat.le_of_ble_eq_true rfl, gTbl_at (i := 329) (by decide +kernel) rfl, uwX5, rfl⟩
theorem ml_X5_44 : MLk RX5 44 yX9_isFile cX9_isFile 2 (some .boolean) 1 := MLk.of 1096 449 450 63 451 (by decide +kernel) (by decide +kernel) (by decide +kernel) (by decide +kernel) (by decide +kernel) ⟨(by decide +kernel), (by decide +kernel), (by decide +kernel)⟩
theorem ml_X5_103 : MLk RX5 103 yX2_has cX2_has 2 (some .boolean) 1 := MLk.of 1097 457 458 68 459 (by decide +kernel) (by decide +kernel) (by decide +kernel) (by decide +kernel) (by decide +kernel) ⟨(by decide +kernel), (by decide +kernel), (by decide +kernel)⟩
theorem ml_X5_50 : MLk RX5 50 yX9_isOpenTo cX9_isOpenTo 5 (some .boolean) 2 := MLk.of 1098 776 777 63 778 (by decide +kernel) (by decide +kernel) (by decide +kernel) (by decide +kernel) (by decide +kernel) ⟨(by decide +kernel), (by decide +kernel), (by decide +kernel)⟩
theorem ms_X5_70 : MSk RX5 70 yX5_score cX5_score 8 (some .int) 4 := MSk.of 1104 1105 72 1106 (by decide +kernel) (by decide +kernel) (by decide +kernel) (by decide +kernel) ⟨(by decide +kernel), (by decide +kernel), (by decide +kernel)⟩
theorem ml_X5_34 : MLk RX5 34 yX2_isBelow cX2_isBelow 6 (some .boolean) 2 := MLk.of 1091 972 973 68 974 (by decide +kernel) (by decide +kernel) (by decide +kernel) (by decide +kernel) (by decide +kernel) ⟨(by decide +kernel), (by decide +kernel), (by decide +kernel)⟩
theorem ml_X5_40 : MLk RX5 40 yX5_scoreOf cX5_scoreOf 5 (some .int) 4 := MLk.of 1092 1094 15 72 1095 (by decide +kernel) (by decide +kernel) (by decide +kernel) (by decide +kernel) (by decide +kernel) ⟨(by decide +kernel), (by decide +kernel), (by decide +kernel)⟩
theorem fl_X5_9 : FLk RX5 9 5 4 := ⟨_, rfl, Nat.le_of_ble_eq_true rfl, gTbl_at (i := 333) (by decide +kernel) rfl, uwX5, rfl⟩
theorem fl_X5_22 : FLk RX5 22 5 1 := ⟨_, rfl, Nat.le_of_ble_eq_true rfl, gTbl_at (i := 330) (by decide +kernel) rfl, uwX5, rfl⟩
theorem ml_X5_90 : MLk RX5 90 yX8_above cX8_above 2 (some (.object "SearchKeeper$Root")) 1 := MLk.of 1122 433 434 64 435 (by decide +kernel) (by decide +kernel) (by decide +kernel) (by decide +kernel) (by decide +kernel) ⟨(by decide +kernel), (by decide +kernel), (by decide +kernel)⟩
theorem fn_X5_96 : FLn RX5 96 7 3 := ⟨_, rfl, Nat.le_of_ble_eq_true rfl, by decide +kernel, uwX7, rfl⟩
theorem ml_X5_102 : MLk RX5 102 yX9_isBelow cX9_isBelow 5 (some .boolean) 2 := MLk.of 1123 685 686 63 687 (by decide +kernel) (by decide +kernel) (by decide +kernel) (by decide +kernel) (by decide +kernel) ⟨(by decide +kernel), (by decide +kernel), (by decide +kernel)⟩
theorem ml_X5_53 : MLk RX5 53 yX5_isWithinNow cX5_isWithinNow 4 (some .boolean) 2 := MLk.of 1118 1120 16 72 1121 (by decide +kernel) (by decide +kernel) (by decide +kernel) (by decide +kernel) (by decide +kernel) ⟨(by decide +kernel), (by decide +kernel), (by decide +kernel)⟩
theorem fl_X5_26 : FLk RX5 26 5 2 := ⟨_, rfl, Nat.le_of_ble_eq_true rfl, gTbl_at (i := 331) (by decide +kernel) rfl, uwX5, rfl⟩
theorem ml_X5_56 : MLk RX5 56 yX9_textOf cX9_textOf 2 (some (.array .int)) 1 := MLk.of 1124 939 940 63 941 (by decide +kernel) (by decide +kernel) (by decide +kernel) (by decide +kernel) (by decide +kernel) ⟨(by decide +kernel), (by decide +kernel), (by decide +kernel)⟩
theorem ml_X5_60 : MLk RX5 60 yX9_lengthOf cX9_lengthOf 2 (some .int) 1 := MLk.of 1125 649 650 63 651 (by decide +kernel) (by decide +kernel) (by decide +kernel) (by decide +kernel) (by decide +kernel) ⟨(by decide +kernel), (by decide +kernel), (by decide +kernel)⟩
theorem fl_X5_15 : FLk RX5 15 5 5 := ⟨_, rfl, Nat.le_of_ble_eq_true rfl, gTbl_at (i := 334) (by decide +kernel) rfl, uwX5, rfl⟩
theorem ml_X5_64 : MLk RX5 64 yX6_takeWords cX6_takeWords 9 (some .int) 3 := MLk.of 1126 947 948 67 949 (by decide +kernel) (by decide +kernel) (by decide +kernel) (by decide +kernel) (by decide +kernel) ⟨(by decide +kernel), (by decide +kernel), (by decide +kernel)⟩
theorem ml_X5_74 : MLk RX5 74 yX5_countAhead cX5_countAhead 5 (some .int) 1 := MLk.of 1139 1141 17 72 1142 (by decide +kernel) (by decide +kernel) (by decide +kernel) (by decide +kernel) (by decide +kernel) ⟨(by decide +kernel), (by decide +kernel), (by decide +kernel)⟩
theorem fl_X7_32 : FLk RX7 32 7 5 := ⟨_, rfl, Nat.le_of_ble_eq_true rfl, gTbl_at (i := 181) (by decide +kernel) rfl, uwX7, rfl⟩
theorem fp_X7_25 : FPk RX7 25 7 3 .int := ⟨_, tyX7, rfl, Nat.le_of_ble_eq_true rfl, gTbl_at (i := 176) (by decide +kernel) rfl, uwX7, rfl, tyX7_ok, nmX7, rfl, by decide +kernel⟩
theorem fp_X7_32 : FPk RX7 32 7 5 .boolean := ⟨_, tyX7, rfl, Nat.le_of_ble_eq_true rfl, gTbl_at (i := 181) (by decide +kernel) rfl, uwX7, rfl, tyX7_ok, nmX7, rfl, by decide +kernel⟩
theorem ml_X7_36 : MLk RX7 36 yX7_beginCrawl cX7_beginCrawl 1 none 0 := MLk.of 806 807 808 65 809 (by decide +kernel) (by decide +kernel) (by decide +kernel) (by decide +kernel) (by decide +kernel) ⟨(by decide +kernel), (by decide +kernel), (by decide +kernel)⟩
theorem ml_X7_43 : MLk RX7 43 yX7_tell cX7_tell 3 none 2 := MLk.of 843 628 629 65 630 (by decide +kernel) (by decide +kernel) (by decide +kernel) (by decide +kernel) (by decide +kernel) ⟨(by decide +kernel), (by decide +kernel), (by decide +kernel)⟩
theorem ml_X8_70 : MLk RX8 70 yX7_startAt cX7_startAt 2 none 1 := MLk.of 802 803 804 65 805 (by decide +kernel) (by decide +kernel) (by decide +kernel) (by decide +kernel) (by decide +kernel) ⟨(by decide +kernel), (by decide +kernel), (by decide +kernel)⟩
theorem fp_X8_22 : FPk RX8 22 8 2 .int := ⟨_, tyX8, rfl, Nat.le_of_ble_eq_true rfl, gTbl_at (i := 199) (by decide +kernel) rfl, uwX8, rfl, tyX8_ok, nmX8, rfl, by decide +kernel⟩
theorem ml_X8_74 : MLk RX8 74 yX9_isThere cX9_isThere 2 (some .boolean) 1 := MLk.of 722 680 681 63 682 (by decide +kernel) (by decide +kernel) (by decide +kernel) (by decide +kernel) (by decide +kernel) ⟨(by decide +kernel), (by decide +kernel), (by decide +kernel)⟩
theorem ml_X8_78 : MLk RX8 78 yX8_end cX8_end 6 none 1 := MLk.of 723 724 725 64 726 (by decide +kernel) (by decide +kernel) (by decide +kernel) (by decide +kernel) (by decide +kernel) ⟨(by decide +kernel), (by decide +kernel), (by decide +kernel)⟩
theorem ml_X8_42 : MLk RX8 42 yX9_isBelow cX9_isBelow 5 (some .boolean) 2 := MLk.of 695 685 686 63 687 (by decide +kernel) (by decide +kernel) (by decide +kernel) (by decide +kernel) (by decide +kernel) ⟨(by decide +kernel), (by decide +kernel), (by decide +kernel)⟩
theorem ml_X8_63 : MLk RX8 63 yX8_above cX8_above 2 (some (.object "SearchKeeper$Root")) 1 := MLk.of 626 433 434 64 435 (by decide +kernel) (by decide +kernel) (by decide +kernel) (by decide +kernel) (by decide +kernel) ⟨(by decide +kernel), (by decide +kernel), (by decide +kernel)⟩
theorem ml_X8_66 : MLk RX8 66 yX7_tell cX7_tell 3 none 2 := MLk.of 627 628 629 65 630 (by decide +kernel) (by decide +kernel) (by decide +kernel) (by decide +kernel) (by decide +kernel) ⟨(by decide +kernel), (by decide +kernel), (by decide +kernel)⟩
theorem fl_X9_43 : FLk RX9 43 9 9 := ⟨_, rfl, Nat.le_of_ble_eq_true rfl, gTbl_at (i := 106) (by decide +kernel) rfl, uwX9, rfl⟩
theorem fp_X9_43 : FPk RX9 43 9 9 .int := ⟨_, tyX9, rfl, Nat.le_of_ble_eq_true rfl, gTbl_at (i := 106) (by decide +kernel) rfl, uwX9, rfl, tyX9_ok, nmX9, rfl, by decide +kernel⟩
theorem ml_X9_58 : MLk RX9 58 yX9_lengthOf cX9_lengthOf 2 (some .int) 1 := MLk.of 657 649 650 63 651 (by decide +kernel) (by decide +kernel) (by decide +kernel) (by decide +kernel) (by decide +kernel) ⟨(by decide +kernel), (by decide +kernel), (by decide +kernel)⟩
theorem ml_X9_61 : MLk RX9 61 yX9_isFile cX9_isFile 2 (some .boolean) 1 := MLk.of 658 449 450 63 451 (by decide +kernel) (by decide +kernel) (by decide +kernel) (by decide +kernel) (by decide +kernel) ⟨(by decide +kernel), (by decide +kernel), (by decide +kernel)⟩
theorem ml_X9_54 : MLk RX9 54 yX9_isThere cX9_isThere 2 (some .boolean) 1 := MLk.of 703 680 681 63 682 (by decide +kernel) (by decide +kernel) (by decide +kernel) (by decide +kernel) (by decide +kernel) ⟨(by decide +kernel), (by decide +kernel), (by decide +kernel)⟩
theorem ml_X9_64 : MLk RX9 64 yX9_isBelow cX9_isBelow 5 (some .boolean) 2 := MLk.of 717 685 686 63 687 (by decide +kernel) (by decide +kernel) (by decide +kernel) (by decide +kernel) (by decide +kernel) ⟨(by decide +kernel), (by decide +kernel), (by decide +kernel)⟩
theorem fl_X10_46 : FLk RX10 46 10 4 := ⟨_, rfl, Nat.le_of_ble_eq_true rfl, gTbl_at (i := 352) (by decide +kernel) rfl, uwX10, rfl⟩
theorem ml_X10_274 : MLk RX10 274 yX4_countActs cX4_countActs 1 (some .int) 0 := MLk.of 392 393 394 69 395 (by decide +kernel) (by decide +kernel) (by decide +kernel) (by decide +kernel) (by decide +kernel) ⟨(by decide +kernel), (by decide +kernel), (by decide +kernel)⟩
theorem ms_X10_103 : MSk RX10 103 yX10_isWord cX10_isWord 1 (some .boolean) 1 := MSk.of 640 641 62 642 (by decide +kernel) (by decide +kernel) (by decide +kernel) (by decide +kernel) ⟨(by decide +kernel), (by decide +kernel), (by decide +kernel)⟩
theorem ms_X10_189 : MSk RX10 189 yX10_isPerson cX10_isPerson 1 (some .boolean) 1 := MSk.of 771 772 62 773 (by decide +kernel) (by decide +kernel) (by decide +kernel) (by decide +kernel) ⟨(by decide +kernel), (by decide +kernel), (by decide +kernel)⟩
theorem ms_X10_302 : MSk RX10 302 yX10_isWordOrNone cX10_isWordOrNone 1 (some .boolean) 1 := MSk.of 1083 1084 62 1085 (by decide +kernel) (by decide +kernel) (by decide +kernel) (by decide +kernel) ⟨(by decide +kernel), (by decide +kernel), (by decide +kernel)⟩
theorem fl_X10_53 : FLk RX10 53 10 5 := ⟨_, rfl, Nat.le_of_ble_eq_true rfl, gTbl_at (i := 353) (by decide +kernel) rfl, uwX10, rfl⟩
theorem ml_X10_315 : MLk RX10 315 yX5_fileAt cX5_fileAt 6 (some .int) 4 := MLk.of 1135 1136 1137 72 1138 (by decide +kernel) (by decide +kernel) (by decide +kernel) (by decide +kernel) (by decide +kernel) ⟨(by decide +kernel), (by decide +kernel), (by decide +kernel)⟩
theorem fl_X10_10 : FLk RX10 10 10 0 := ⟨_, rfl, Nat.le_of_ble_eq_true rfl, gTbl_at (i := 348) (by decide +kernel) rfl, uwX10, rfl⟩
theorem ml_X10_282 : MLk RX10 282 yX9_wasMade cX9_wasMade 2 (some .boolean) 1 := MLk.of 1065 1066 1067 63 1068 (by decide +kernel) (by decide +kernel) (by decide +kernel) (by decide +kernel) (by decide +kernel) ⟨(by decide +kernel), (by decide +kernel), (by decide +kernel)⟩
theorem ml_X10_297 : MLk RX10 297 yX10_isMadeOrNone cX10_isMadeOrNone 2 (some .boolean) 1 := MLk.of 1078 1080 14 62 1081 (by decide +kernel) (by decide +kernel) (by decide +kernel) (by decide +kernel) (by decide +kernel) ⟨(by decide +kernel), (by decide +kernel), (by decide +kernel)⟩
theorem ml_X10_307 : MLk RX10 307 yX5_count cX5_count 8 (some .int) 4 := MLk.of 1087 1088 1089 72 1090 (by decide +kernel) (by decide +kernel) (by decide +kernel) (by decide +kernel) (by decide +kernel) ⟨(by decide +kernel), (by decide +kernel), (by decide +kernel)⟩
theorem ml_X10_310 : MLk RX10 310 yX5_countAnew cX5_countAnew 8 (some .int) 4 := MLk.of 1114 1115 1116 72 1117 (by decide +kernel) (by decide +kernel) (by decide +kernel) (by decide +kernel) (by decide +kernel) ⟨(by decide +kernel), (by decide +kernel), (by decide +kernel)⟩
theorem fl_X10_245 : FLk RX10 245 10 7 := ⟨_, rfl, Nat.le_of_ble_eq_true rfl, gTbl_at (i := 355) (by decide +kernel) rfl, uwX10, rfl⟩
theorem fp_X10_245 : FPk RX10 245 10 7 .boolean := ⟨_, tyX10, rfl, Nat.le_of_ble_eq_true rfl, gTbl_at (i := 355) (by decide +kernel) rfl, uwX10, rfl, tyX10_ok, nmX10, rfl, by decide +kernel⟩
theorem ml_X10_98 : MLk RX10 98 yX9_isFile cX9_isFile 2 (some .boolean) 1 := MLk.of 638 449 450 63 451 (by decide +kernel) (by decide +kernel) (by decide +kernel) (by decide +kernel) (by decide +kernel) ⟨(by decide +kernel), (by decide +kernel), (by decide +kernel)⟩
theorem ml_X10_194 : MLk RX10 194 yX9_isOpenTo cX9_isOpenTo 5 (some .boolean) 2 := MLk.of 775 776 777 63 778 (by decide +kernel) (by decide +kernel) (by decide +kernel) (by decide +kernel) (by decide +kernel) ⟨(by decide +kernel), (by decide +kernel), (by decide +kernel)⟩
theorem ml_X10_322 : MLk RX10 322 yX5_closestPlaces cX5_closestPlaces 14 (some .int) 3 := MLk.of 1152 1153 1154 72 1155 (by decide +kernel) (by decide +kernel) (by decide +kernel) (by decide +kernel) (by decide +kernel) ⟨(by decide +kernel), (by decide +kernel), (by decide +kernel)⟩
theorem fl_X10_21 : FLk RX10 21 10 1 := ⟨_, rfl, Nat.le_of_ble_eq_true rfl, gTbl_at (i := 349) (by decide +kernel) rfl, uwX10, rfl⟩
theorem ml_X10_201 : MLk RX10 201 yX8_find cX8_find 4 (some (.object "SearchKeeper$Root")) 1 := MLk.of 787 445 446 64 447 (by decide +kernel) (by decide +kernel) (by decide +kernel) (by decide +kernel) (by decide +kernel) ⟨(by decide +kernel), (by decide +kernel), (by decide +kernel)⟩
theorem ml_X10_268 : MLk RX10 268 yX7_beginCrawl cX7_beginCrawl 1 none 0 := MLk.of 1057 807 808 65 809 (by decide +kernel) (by decide +kernel) (by decide +kernel) (by decide +kernel) (by decide +kernel) ⟨(by decide +kernel), (by decide +kernel), (by decide +kernel)⟩
theorem ml_X10_271 : MLk RX10 271 yX8_countCrawls cX8_countCrawls 4 (some .int) 0 := MLk.of 412 413 414 64 415 (by decide +kernel) (by decide +kernel) (by decide +kernel) (by decide +kernel) (by decide +kernel) ⟨(by decide +kernel), (by decide +kernel), (by decide +kernel)⟩
theorem ml_X10_294 : MLk RX10 294 yX4_countDead cX4_countDead 1 (some .int) 0 := MLk.of 485 486 487 69 488 (by decide +kernel) (by decide +kernel) (by decide +kernel) (by decide +kernel) (by decide +kernel) ⟨(by decide +kernel), (by decide +kernel), (by decide +kernel)⟩
theorem fl_X10_37 : FLk RX10 37 10 3 := ⟨_, rfl, Nat.le_of_ble_eq_true rfl, gTbl_at (i := 351) (by decide +kernel) rfl, uwX10, rfl⟩
theorem ml_X10_287 : MLk RX10 287 yX2_editionOf cX2_editionOf 2 (some .int) 1 := MLk.of 1070 933 934 68 935 (by decide +kernel) (by decide +kernel) (by decide +kernel) (by decide +kernel) (by decide +kernel) ⟨(by decide +kernel), (by decide +kernel), (by decide +kernel)⟩
theorem ml_X10_108 : MLk RX10 108 yX9_isLocked cX9_isLocked 2 (some .boolean) 1 := MLk.of 644 645 646 63 647 (by decide +kernel) (by decide +kernel) (by decide +kernel) (by decide +kernel) (by decide +kernel) ⟨(by decide +kernel), (by decide +kernel), (by decide +kernel)⟩
theorem ml_X10_111 : MLk RX10 111 yX9_lengthOf cX9_lengthOf 2 (some .int) 1 := MLk.of 648 649 650 63 651 (by decide +kernel) (by decide +kernel) (by decide +kernel) (by decide +kernel) (by decide +kernel) ⟨(by decide +kernel), (by decide +kernel), (by decide +kernel)⟩
theorem ml_X10_125 : MLk RX10 125 yX9_clearText cX9_clearText 2 none 1 := MLk.of 668 669 670 63 671 (by decide +kernel) (by decide +kernel) (by decide +kernel) (by decide +kernel) (by decide +kernel) ⟨(by decide +kernel), (by decide +kernel), (by decide +kernel)⟩
theorem ml_X10_94 : MLk RX10 94 yX8_tellAbove cX8_tellAbove 4 none 2 := MLk.of 622 623 624 64 625 (by decide +kernel) (by decide +kernel) (by decide +kernel) (by decide +kernel) (by decide +kernel) ⟨(by decide +kernel), (by decide +kernel), (by decide +kernel)⟩
theorem ml_X10_281 : MLk RX10 281 yX2_count cX2_count 3 (some .int) 0 := MLk.of 420 421 422 68 423 (by decide +kernel) (by decide +kernel) (by decide +kernel) (by decide +kernel) (by decide +kernel) ⟨(by decide +kernel), (by decide +kernel), (by decide +kernel)⟩
theorem ml_X10_277 : MLk RX10 277 yX8_firstNoisy cX8_firstNoisy 3 (some (.object "SearchKeeper$Root")) 0 := MLk.of 404 405 406 64 407 (by decide +kernel) (by decide +kernel) (by decide +kernel) (by decide +kernel) (by decide +kernel) ⟨(by decide +kernel), (by decide +kernel), (by decide +kernel)⟩
theorem fl_X10_28 : FLk RX10 28 10 2 := ⟨_, rfl, Nat.le_of_ble_eq_true rfl, gTbl_at (i := 350) (by decide +kernel) rfl, uwX10, rfl⟩
theorem fn_X10_251 : FLn RX10 251 6 1 := ⟨_, rfl, Nat.le_of_ble_eq_true rfl, by decide +kernel, uwX6, rfl⟩
theorem fq_X10_254 : FPn RX10 254 6 0 .int := ⟨_, tyX6, rfl, Nat.le_of_ble_eq_true rfl, by decide +kernel, uwX6, rfl, tyX6_ok, nmX6, rfl, by decide +kernel⟩
theorem fq_X10_251 : FPn RX10 251 6 1 .int := ⟨_, tyX6, rfl, Nat.le_of_ble_eq_true rfl, by decide +kernel, uwX6, rfl, tyX6_ok, nmX6, rfl, by decide +kernel⟩
theorem ml_X10_175 : MLk RX10 175 yX9_setLocked cX9_setLocked 3 none 2 := MLk.of 743 744 745 63 746 (by decide +kernel) (by decide +kernel) (by decide +kernel) (by decide +kernel) (by decide +kernel) ⟨(by decide +kernel), (by decide +kernel), (by decide +kernel)⟩
theorem ml_X10_230 : MLk RX10 230 yX7_forgetLast cX7_forgetLast 2 (some .int) 1 := MLk.of 852 853 854 65 855 (by decide +kernel) (by decide +kernel) (by decide +kernel) (by decide +kernel) (by decide +kernel) ⟨(by decide +kernel), (by decide +kernel), (by decide +kernel)⟩
theorem ml_X10_57 : MLk RX10 57 yX9_isFolder cX9_isFolder 2 (some .boolean) 1 := MLk.of 503 504 505 63 506 (by decide +kernel) (by decide +kernel) (by decide +kernel) (by decide +kernel) (by decide +kernel) ⟨(by decide +kernel), (by decide +kernel), (by decide +kernel)⟩
theorem ms_X10_68 : MSk RX10 68 yX10_isName cX10_isName 1 (some .boolean) 1 := MSk.of 575 576 62 577 (by decide +kernel) (by decide +kernel) (by decide +kernel) (by decide +kernel) ⟨(by decide +kernel), (by decide +kernel), (by decide +kernel)⟩
theorem ml_X10_77 : MLk RX10 77 yX9_findIn cX9_findIn 4 (some .int) 2 := MLk.of 594 595 596 63 597 (by decide +kernel) (by decide +kernel) (by decide +kernel) (by decide +kernel) (by decide +kernel) ⟨(by decide +kernel), (by decide +kernel), (by decide +kernel)⟩
theorem ml_X10_81 : MLk RX10 81 yX9_isFull cX9_isFull 1 (some .boolean) 0 := MLk.of 598 599 600 63 601 (by decide +kernel) (by decide +kernel) (by decide +kernel) (by decide +kernel) (by decide +kernel) ⟨(by decide +kernel), (by decide +kernel), (by decide +kernel)⟩
theorem ml_X10_90 : MLk RX10 90 yX9_add cX9_add 5 (some .int) 3 := MLk.of 618 619 620 63 621 (by decide +kernel) (by decide +kernel) (by decide +kernel) (by decide +kernel) (by decide +kernel) ⟨(by decide +kernel), (by decide +kernel), (by decide +kernel)⟩
theorem ml_X10_129 : MLk RX10 129 yX9_isThere cX9_isThere 2 (some .boolean) 1 := MLk.of 679 680 681 63 682 (by decide +kernel) (by decide +kernel) (by decide +kernel) (by decide +kernel) (by decide +kernel) ⟨(by decide +kernel), (by decide +kernel), (by decide +kernel)⟩
theorem ml_X10_134 : MLk RX10 134 yX9_isBelow cX9_isBelow 5 (some .boolean) 2 := MLk.of 684 685 686 63 687 (by decide +kernel) (by decide +kernel) (by decide +kernel) (by decide +kernel) (by decide +kernel) ⟨(by decide +kernel), (by decide +kernel), (by decide +kernel)⟩
theorem ml_X10_140 : MLk RX10 140 yX8_holding cX8_holding 5 (some (.object "SearchKeeper$Root")) 1 := MLk.of 690 441 442 64 443 (by decide +kernel) (by decide +kernel) (by decide +kernel) (by decide +kernel) (by decide +kernel) ⟨(by decide +kernel), (by decide +kernel), (by decide +kernel)⟩
theorem ml_X10_144 : MLk RX10 144 yX8_hasAtOrBelow cX8_hasAtOrBelow 4 (some .boolean) 1 := MLk.of 691 692 693 64 694 (by decide +kernel) (by decide +kernel) (by decide +kernel) (by decide +kernel) (by decide +kernel) ⟨(by decide +kernel), (by decide +kernel), (by decide +kernel)⟩
theorem ml_X10_149 : MLk RX10 149 yX8_above cX8_above 2 (some (.object "SearchKeeper$Root")) 1 := MLk.of 697 433 434 64 435 (by decide +kernel) (by decide +kernel) (by decide +kernel) (by decide +kernel) (by decide +kernel) ⟨(by decide +kernel), (by decide +kernel), (by decide +kernel)⟩
theorem ml_X10_152 : MLk RX10 152 yX9_parentOf cX9_parentOf 2 (some .int) 1 := MLk.of 698 437 438 63 439 (by decide +kernel) (by decide +kernel) (by decide +kernel) (by decide +kernel) (by decide +kernel) ⟨(by decide +kernel), (by decide +kernel), (by decide +kernel)⟩
theorem ml_X10_155 : MLk RX10 155 yX9_put cX9_put 4 none 3 := MLk.of 699 700 701 63 702 (by decide +kernel) (by decide +kernel) (by decide +kernel) (by decide +kernel) (by decide +kernel) ⟨(by decide +kernel), (by decide +kernel), (by decide +kernel)⟩
theorem ml_X10_159 : MLk RX10 159 yX7_tell cX7_tell 3 none 2 := MLk.of 704 628 629 65 630 (by decide +kernel) (by decide +kernel) (by decide +kernel) (by decide +kernel) (by decide +kernel) ⟨(by decide +kernel), (by decide +kernel), (by decide +kernel)⟩
theorem ml_X10_197 : MLk RX10 197 yX9_countThere cX9_countThere 3 (some .int) 0 := MLk.of 380 381 382 63 383 (by decide +kernel) (by decide +kernel) (by decide +kernel) (by decide +kernel) (by decide +kernel) ⟨(by decide +kernel), (by decide +kernel), (by decide +kernel)⟩
theorem ml_X10_217 : MLk RX10 217 yX7_countOrFlood cX7_countOrFlood 1 (some .int) 0 := MLk.of 826 827 828 65 829 (by decide +kernel) (by decide +kernel) (by decide +kernel) (by decide +kernel) (by decide +kernel) ⟨(by decide +kernel), (by decide +kernel), (by decide +kernel)⟩
theorem fl_X10_235 : FLk RX10 235 10 6 := ⟨_, rfl, Nat.le_of_ble_eq_true rfl, gTbl_at (i := 354) (by decide +kernel) rfl, uwX10, rfl⟩
theorem kc_X10_239 : Cond.constant RX10 239 100000 ∈ gTbl := gTbl_at (i := 867) (by decide +kernel) rfl
theorem fp_X10_235 : FPk RX10 235 10 6 .int := ⟨_, tyX10, rfl, Nat.le_of_ble_eq_true rfl, gTbl_at (i := 354) (by decide +kernel) rfl, uwX10, rfl, tyX10_ok, nmX10, rfl, by decide +kernel⟩
theorem fp_X10_242 : FPk RX10 242 10 8 .int := ⟨_, tyX10, rfl, Nat.le_of_ble_eq_true rfl, gTbl_at (i := 356) (by decide +kernel) rfl, uwX10, rfl, tyX10_ok, nmX10, rfl, by decide +kernel⟩
theorem ml_X10_183 : MLk RX10 183 yX9_peopleOf cX9_peopleOf 2 (some .int) 1 := MLk.of 756 757 758 63 759 (by decide +kernel) (by decide +kernel) (by decide +kernel) (by decide +kernel) (by decide +kernel) ⟨(by decide +kernel), (by decide +kernel), (by decide +kernel)⟩
theorem ml_X10_186 : MLk RX10 186 yX9_setPeople cX9_setPeople 3 none 2 := MLk.of 760 761 762 63 763 (by decide +kernel) (by decide +kernel) (by decide +kernel) (by decide +kernel) (by decide +kernel) ⟨(by decide +kernel), (by decide +kernel), (by decide +kernel)⟩
theorem ml_X10_166 : MLk RX10 166 yX9_takeAway cX9_takeAway 4 (some .int) 1 := MLk.of 713 714 715 63 716 (by decide +kernel) (by decide +kernel) (by decide +kernel) (by decide +kernel) (by decide +kernel) ⟨(by decide +kernel), (by decide +kernel), (by decide +kernel)⟩
theorem ml_X10_169 : MLk RX10 169 yX8_endGone cX8_endGone 4 (some .boolean) 0 := MLk.of 718 719 720 64 721 (by decide +kernel) (by decide +kernel) (by decide +kernel) (by decide +kernel) (by decide +kernel) ⟨(by decide +kernel), (by decide +kernel), (by decide +kernel)⟩
theorem ml_X10_172 : MLk RX10 172 yX4_lookAtAllEntries cX4_lookAtAllEntries 2 none 0 := MLk.of 727 728 729 69 730 (by decide +kernel) (by decide +kernel) (by decide +kernel) (by decide +kernel) (by decide +kernel) ⟨(by decide +kernel), (by decide +kernel), (by decide +kernel)⟩
theorem ml_X10_291 : MLk RX10 291 yX4_countSegments cX4_countSegments 1 (some .int) 0 := MLk.of 473 474 475 69 476 (by decide +kernel) (by decide +kernel) (by decide +kernel) (by decide +kernel) (by decide +kernel) ⟨(by decide +kernel), (by decide +kernel), (by decide +kernel)⟩
theorem ml_X10_288 : MLk RX10 288 yX2_countStale cX2_countStale 4 (some .int) 0 := MLk.of 428 429 430 68 431 (by decide +kernel) (by decide +kernel) (by decide +kernel) (by decide +kernel) (by decide +kernel) ⟨(by decide +kernel), (by decide +kernel), (by decide +kernel)⟩
theorem ml_X10_220 : MLk RX10 220 yX7_hasNotices cX7_hasNotices 1 (some .boolean) 0 := MLk.of 837 409 410 65 411 (by decide +kernel) (by decide +kernel) (by decide +kernel) (by decide +kernel) (by decide +kernel) ⟨(by decide +kernel), (by decide +kernel), (by decide +kernel)⟩
theorem ml_X10_225 : MLk RX10 225 yX7_tellLastAgain cX7_tellLastAgain 2 none 0 := MLk.of 839 840 841 65 842 (by decide +kernel) (by decide +kernel) (by decide +kernel) (by decide +kernel) (by decide +kernel) ⟨(by decide +kernel), (by decide +kernel), (by decide +kernel)⟩
theorem ml_X10_210 : MLk RX10 210 yX8_isFull cX8_isFull 1 (some .boolean) 0 := MLk.of 793 794 795 64 796 (by decide +kernel) (by decide +kernel) (by decide +kernel) (by decide +kernel) (by decide +kernel) ⟨(by decide +kernel), (by decide +kernel), (by decide +kernel)⟩
theorem ml_X10_213 : MLk RX10 213 yX8_add cX8_add 3 none 1 := MLk.of 798 799 800 64 801 (by decide +kernel) (by decide +kernel) (by decide +kernel) (by decide +kernel) (by decide +kernel) ⟨(by decide +kernel), (by decide +kernel), (by decide +kernel)⟩
theorem ml_X10_207 : MLk RX10 207 yX8_count cX8_count 1 (some .int) 0 := MLk.of 789 790 791 64 792 (by decide +kernel) (by decide +kernel) (by decide +kernel) (by decide +kernel) (by decide +kernel) ⟨(by decide +kernel), (by decide +kernel), (by decide +kernel)⟩
theorem ml_X10_204 : MLk RX10 204 yX8_end cX8_end 6 none 1 := MLk.of 788 724 725 64 726 (by decide +kernel) (by decide +kernel) (by decide +kernel) (by decide +kernel) (by decide +kernel) ⟨(by decide +kernel), (by decide +kernel), (by decide +kernel)⟩
theorem fl_X10_242 : FLk RX10 242 10 8 := ⟨_, rfl, Nat.le_of_ble_eq_true rfl, gTbl_at (i := 356) (by decide +kernel) rfl, uwX10, rfl⟩
theorem mm_X10_262 : Cond.methodLink RX10 262 Lib.Math.min.name ∈ gTbl ∧ Cond.static Lib.Math.min.name ∈ gTbl ∧ Cond.initialized "java/lang/Math" ∈ gTbl ∧ Cond.code Lib.Math.min.name Lib.Math.min.code 2 (some .int) ∈ gTbl := ⟨gTbl_at (i := 1049) (by decide +kernel) rfl, gTbl_at (i := 954) (by decide +kernel) rfl, gTbl_at (i := 80) (by decide +kernel) rfl, gTbl_at (i := 955) (by decide +kernel) rfl⟩
theorem ml_X10_259 : MLk RX10 259 yX4_doSteps cX4_doSteps 5 (some .int) 1 := MLk.of 885 886 887 69 888 (by decide +kernel) (by decide +kernel) (by decide +kernel) (by decide +kernel) (by decide +kernel) ⟨(by decide +kernel), (by decide +kernel), (by decide +kernel)⟩
theorem ml_X10_117 : MLk RX10 117 yX9_append cX9_append 4 none 2 := MLk.of 653 654 655 63 656 (by decide +kernel) (by decide +kernel) (by decide +kernel) (by decide +kernel) (by decide +kernel) ⟨(by decide +kernel), (by decide +kernel), (by decide +kernel)⟩
theorem ml_X10_120 : MLk RX10 120 yX9_editionOf cX9_editionOf 2 (some .int) 1 := MLk.of 659 466 467 63 468 (by decide +kernel) (by decide +kernel) (by decide +kernel) (by decide +kernel) (by decide +kernel) ⟨(by decide +kernel), (by decide +kernel), (by decide +kernel)⟩
theorem fl_X11_183 : FLk RX11 183 11 30 := ⟨_, rfl, Nat.le_of_ble_eq_true rfl, gTbl_at (i := 1196) (by decide +kernel) rfl, uwX11, rfl⟩
theorem fp_X11_183 : FPk RX11 183 11 30 .int := ⟨_, tyX11, rfl, Nat.le_of_ble_eq_true rfl, gTbl_at (i := 1196) (by decide +kernel) rfl, uwX11, rfl, tyX11_ok, nmX11, rfl, by decide +kernel⟩
theorem fl_X11_91 : FLk RX11 91 11 31 := ⟨_, rfl, Nat.le_of_ble_eq_true rfl, gTbl_at (i := 1197) (by decide +kernel) rfl, uwX11, rfl⟩
theorem fl_X11_94 : FLk RX11 94 11 32 := ⟨_, rfl, Nat.le_of_ble_eq_true rfl, gTbl_at (i := 1198) (by decide +kernel) rfl, uwX11, rfl⟩
theorem fl_X11_97 : FLk RX11 97 11 33 := ⟨_, rfl, Nat.le_of_ble_eq_true rfl, gTbl_at (i := 1199) (by decide +kernel) rfl, uwX11, rfl⟩
theorem fl_X11_16 : FLk RX11 16 11 5 := ⟨_, rfl, Nat.le_of_ble_eq_true rfl, gTbl_at (i := 1171) (by decide +kernel) rfl, uwX11, rfl⟩
theorem fl_X11_132 : FLk RX11 132 11 12 := ⟨_, rfl, Nat.le_of_ble_eq_true rfl, gTbl_at (i := 1178) (by decide +kernel) rfl, uwX11, rfl⟩
theorem fl_X11_7 : FLk RX11 7 11 3 := ⟨_, rfl, Nat.le_of_ble_eq_true rfl, gTbl_at (i := 1169) (by decide +kernel) rfl, uwX11, rfl⟩
theorem fl_X11_39 : FLk RX11 39 11 13 := ⟨_, rfl, Nat.le_of_ble_eq_true rfl, gTbl_at (i := 1179) (by decide +kernel) rfl, uwX11, rfl⟩
theorem ml_X11_135 : MLk RX11 135 yX11_isBelow cX11_isBelow 5 (some .boolean) 2 := MLk.of 1336 1338 23 73 1339 (by decide +kernel) (by decide +kernel) (by decide +kernel) (by decide +kernel) (by decide +kernel) ⟨(by decide +kernel), (by decide +kernel), (by decide +kernel)⟩
theorem fl_X11_66 : FLk RX11 66 11 22 := ⟨_, rfl, Nat.le_of_ble_eq_true rfl, gTbl_at (i := 1188) (by decide +kernel) rfl, uwX11, rfl⟩
theorem fl_X11_69 : FLk RX11 69 11 23 := ⟨_, rfl, Nat.le_of_ble_eq_true rfl, gTbl_at (i := 1189) (by decide +kernel) rfl, uwX11, rfl⟩
theorem ml_X11_163 : MLk RX11 163 yX11_rootAt cX11_rootAt 4 (some .int) 1 := MLk.of 1364 1366 27 73 1367 (by decide +kernel) (by decide +kernel) (by decide +kernel) (by decide +kernel) (by decide +kernel) ⟨(by decide +kernel), (by decide +kernel), (by decide +kernel)⟩
theorem fl_X11_192 : FLk RX11 192 11 37 := ⟨_, rfl, Nat.le_of_ble_eq_true rfl, gTbl_at (i := 1203) (by decide +kernel) rfl, uwX11, rfl⟩
theorem fl_X11_106 : FLk RX11 106 11 40 := ⟨_, rfl, Nat.le_of_ble_eq_true rfl, gTbl_at (i := 1206) (by decide +kernel) rfl, uwX11, rfl⟩
theorem fl_X11_103 : FLk RX11 103 11 39 := ⟨_, rfl, Nat.le_of_ble_eq_true rfl, gTbl_at (i := 1205) (by decide +kernel) rfl, uwX11, rfl⟩
theorem fl_X11_118 : FLk RX11 118 11 2 := ⟨_, rfl, Nat.le_of_ble_eq_true rfl, gTbl_at (i := 1168) (by decide +kernel) rfl, uwX11, rfl⟩
theorem fl_X11_112 : FLk RX11 112 11 43 := ⟨_, rfl, Nat.le_of_ble_eq_true rfl, gTbl_at (i := 1209) (by decide +kernel) rfl, uwX11, rfl⟩
theorem ml_X11_186 : MLk RX11 186 yX11_liesBelow cX11_liesBelow 5 (some .boolean) 2 := MLk.of 1477 1479 42 73 1480 (by decide +kernel) (by decide +kernel) (by decide +kernel) (by decide +kernel) (by decide +kernel) ⟨(by decide +kernel), (by decide +kernel), (by decide +kernel)⟩
theorem fl_X11_109 : FLk RX11 109 11 42 := ⟨_, rfl, Nat.le_of_ble_eq_true rfl, gTbl_at (i := 1208) (by decide +kernel) rfl, uwX11, rfl⟩
theorem ml_X11_189 : MLk RX11 189 yX11_kills cX11_kills 3 none 1 := MLk.of 1481 1483 43 73 1484 (by decide +kernel) (by decide +kernel) (by decide +kernel) (by decide +kernel) (by decide +kernel) ⟨(by decide +kernel), (by decide +kernel), (by decide +kernel)⟩
theorem fl_X11_72 : FLk RX11 72 11 24 := ⟨_, rfl, Nat.le_of_ble_eq_true rfl, gTbl_at (i := 1190) (by decide +kernel) rfl, uwX11, rfl⟩
theorem fl_X11_20 : FLk RX11 20 11 6 := ⟨_, rfl, Nat.le_of_ble_eq_true rfl, gTbl_at (i := 1172) (by decide +kernel) rfl, uwX11, rfl⟩
theorem fl_X11_27 : FLk RX11 27 11 8 := ⟨_, rfl, Nat.le_of_ble_eq_true rfl, gTbl_at (i := 1174) (by decide +kernel) rfl, uwX11, rfl⟩
theorem fp_X11_195 : FPk RX11 195 11 44 .int := ⟨_, tyX11, rfl, Nat.le_of_ble_eq_true rfl, gTbl_at (i := 1210) (by decide +kernel) rfl, uwX11, rfl, tyX11_ok, nmX11, rfl, by decide +kernel⟩
theorem fl_X11_30 : FLk RX11 30 11 9 := ⟨_, rfl, Nat.le_of_ble_eq_true rfl, gTbl_at (i := 1175) (by decide +kernel) rfl, uwX11, rfl⟩
theorem fl_X11_84 : FLk RX11 84 11 28 := ⟨_, rfl, Nat.le_of_ble_eq_true rfl, gTbl_at (i := 1194) (by decide +kernel) rfl, uwX11, rfl⟩
theorem fl_X11_195 : FLk RX11 195 11 44 := ⟨_, rfl, Nat.le_of_ble_eq_true rfl, gTbl_at (i := 1210) (by decide +kernel) rfl, uwX11, rfl⟩
theorem fl_X11_88 : FLk RX11 88 11 29 := ⟨_, rfl, Nat.le_of_ble_eq_true rfl, gTbl_at (i := 1195) (by decide +kernel) rfl, uwX11, rfl⟩
theorem fl_X11_115 : FLk RX11 115 11 45 := ⟨_, rfl, Nat.le_of_ble_eq_true rfl, gTbl_at (i := 1211) (by decide +kernel) rfl, uwX11, rfl⟩
theorem ml_X11_210 : MLk RX11 210 yX11_takesWords cX11_takesWords 7 none 1 := MLk.of 1493 1495 46 73 1496 (by decide +kernel) (by decide +kernel) (by decide +kernel) (by decide +kernel) (by decide +kernel) ⟨(by decide +kernel), (by decide +kernel), (by decide +kernel)⟩
theorem fl_X11_75 : FLk RX11 75 11 25 := ⟨_, rfl, Nat.le_of_ble_eq_true rfl, gTbl_at (i := 1191) (by decide +kernel) rfl, uwX11, rfl⟩
theorem fl_X11_24 : FLk RX11 24 11 7 := ⟨_, rfl, Nat.le_of_ble_eq_true rfl, gTbl_at (i := 1173) (by decide +kernel) rfl, uwX11, rfl⟩
theorem fl_X11_78 : FLk RX11 78 11 26 := ⟨_, rfl, Nat.le_of_ble_eq_true rfl, gTbl_at (i := 1192) (by decide +kernel) rfl, uwX11, rfl⟩
theorem fl_X11_81 : FLk RX11 81 11 27 := ⟨_, rfl, Nat.le_of_ble_eq_true rfl, gTbl_at (i := 1193) (by decide +kernel) rfl, uwX11, rfl⟩
theorem ml_X11_198 : MLk RX11 198 yX11_takesAct cX11_takesAct 3 none 1 := MLk.of 1469 1471 40 73 1472 (by decide +kernel) (by decide +kernel) (by decide +kernel) (by decide +kernel) (by decide +kernel) ⟨(by decide +kernel), (by decide +kernel), (by decide +kernel)⟩
theorem ml_X11_150 : MLk RX11 150 yX11_over cX11_over 4 (some .int) 1 := MLk.of 1332 1334 22 73 1335 (by decide +kernel) (by decide +kernel) (by decide +kernel) (by decide +kernel) (by decide +kernel) ⟨(by decide +kernel), (by decide +kernel), (by decide +kernel)⟩
theorem fl_X11_13 : FLk RX11 13 11 4 := ⟨_, rfl, Nat.le_of_ble_eq_true rfl, gTbl_at (i := 1170) (by decide +kernel) rfl, uwX11, rfl⟩
theorem fl_X11_33 : FLk RX11 33 11 10 := ⟨_, rfl, Nat.le_of_ble_eq_true rfl, gTbl_at (i := 1176) (by decide +kernel) rfl, uwX11, rfl⟩
theorem ml_X11_176 : MLk RX11 176 yX11_adds cX11_adds 5 none 2 := MLk.of 1380 1382 30 73 1383 (by decide +kernel) (by decide +kernel) (by decide +kernel) (by decide +kernel) (by decide +kernel) ⟨(by decide +kernel), (by decide +kernel), (by decide +kernel)⟩
theorem ml_X11_204 : MLk RX11 204 yX11_places cX11_places 2 none 1 := MLk.of 1485 1487 44 73 1488 (by decide +kernel) (by decide +kernel) (by decide +kernel) (by decide +kernel) (by decide +kernel) ⟨(by decide +kernel), (by decide +kernel), (by decide +kernel)⟩
theorem ml_X11_201 : MLk RX11 201 yX11_forgets cX11_forgets 3 none 1 := MLk.of 1473 1475 41 73 1476 (by decide +kernel) (by decide +kernel) (by decide +kernel) (by decide +kernel) (by decide +kernel) ⟨(by decide +kernel), (by decide +kernel), (by decide +kernel)⟩
theorem ml_X11_207 : MLk RX11 207 yX11_reads cX11_reads 3 none 1 := MLk.of 1489 1491 45 73 1492 (by decide +kernel) (by decide +kernel) (by decide +kernel) (by decide +kernel) (by decide +kernel) ⟨(by decide +kernel), (by decide +kernel), (by decide +kernel)⟩
theorem fp_X11_121 : FPk RX11 121 11 0 .int := ⟨_, tyX11, rfl, Nat.le_of_ble_eq_true rfl, gTbl_at (i := 1166) (by decide +kernel) rfl, uwX11, rfl, tyX11_ok, nmX11, rfl, by decide +kernel⟩
theorem ms_X11_124 : MSk RX11 124 yX11_in cX11_in 3 (some .boolean) 3 := MSk.of 1321 1322 73 1323 (by decide +kernel) (by decide +kernel) (by decide +kernel) (by decide +kernel) ⟨(by decide +kernel), (by decide +kernel), (by decide +kernel)⟩
theorem ml_X11_277 : MLk RX11 277 yX11_often cX11_often 5 (some .int) 2 := MLk.of 1581 1583 59 73 1584 (by decide +kernel) (by decide +kernel) (by decide +kernel) (by decide +kernel) (by decide +kernel) ⟨(by decide +kernel), (by decide +kernel), (by decide +kernel)⟩
theorem fl_X11_36 : FLk RX11 36 11 11 := ⟨_, rfl, Nat.le_of_ble_eq_true rfl, gTbl_at (i := 1177) (by decide +kernel) rfl, uwX11, rfl⟩
theorem ml_X11_281 : MLk RX11 281 yX11_has cX11_has 4 (some .boolean) 3 := MLk.of 1577 1579 58 73 1580 (by decide +kernel) (by decide +kernel) (by decide +kernel) (by decide +kernel) (by decide +kernel) ⟨(by decide +kernel), (by decide +kernel), (by decide +kernel)⟩
theorem ml_X11_173 : MLk RX11 173 yX11_mayReadAt cX11_mayReadAt 5 (some .boolean) 2 := MLk.of 1396 1398 31 73 1399 (by decide +kernel) (by decide +kernel) (by decide +kernel) (by decide +kernel) (by decide +kernel) ⟨(by decide +kernel), (by decide +kernel), (by decide +kernel)⟩
theorem ml_X11_284 : MLk RX11 284 yX11_areWords cX11_areWords 3 (some .boolean) 2 := MLk.of 1569 1571 56 73 1572 (by decide +kernel) (by decide +kernel) (by decide +kernel) (by decide +kernel) (by decide +kernel) ⟨(by decide +kernel), (by decide +kernel), (by decide +kernel)⟩
theorem ml_X11_142 : MLk RX11 142 yX11_fails cX11_fails 2 (some .int) 1 := MLk.of 1324 1326 20 73 1327 (by decide +kernel) (by decide +kernel) (by decide +kernel) (by decide +kernel) (by decide +kernel) ⟨(by decide +kernel), (by decide +kernel), (by decide +kernel)⟩
theorem fl_X11_121 : FLk RX11 121 11 0 := ⟨_, rfl, Nat.le_of_ble_eq_true rfl, gTbl_at (i := 1166) (by decide +kernel) rfl, uwX11, rfl⟩
theorem ml_X11_291 : MLk RX11 291 yX11_isAnswer cX11_isAnswer 6 (some .boolean) 5 := MLk.of 1573 1575 57 73 1576 (by decide +kernel) (by decide +kernel) (by decide +kernel) (by decide +kernel) (by decide +kernel) ⟨(by decide +kernel), (by decide +kernel), (by decide +kernel)⟩
theorem ml_X11_295 : MLk RX11 295 yX11_score cX11_score 7 (some .int) 3 := MLk.of 1593 1595 60 73 1596 (by decide +kernel) (by decide +kernel) (by decide +kernel) (by decide +kernel) (by decide +kernel) ⟨(by decide +kernel), (by decide +kernel), (by decide +kernel)⟩
theorem ml_X11_287 : MLk RX11 287 yX11_canAsk cX11_canAsk 6 (some .boolean) 4 := MLk.of 1565 1567 55 73 1568 (by decide +kernel) (by decide +kernel) (by decide +kernel) (by decide +kernel) (by decide +kernel) ⟨(by decide +kernel), (by decide +kernel), (by decide +kernel)⟩
theorem fl_X11_245 : FLk RX11 245 11 34 := ⟨_, rfl, Nat.le_of_ble_eq_true rfl, gTbl_at (i := 1200) (by decide +kernel) rfl, uwX11, rfl⟩
theorem fp_X11_245 : FPk RX11 245 11 34 .boolean := ⟨_, tyX11, rfl, Nat.le_of_ble_eq_true rfl, gTbl_at (i := 1200) (by decide +kernel) rfl, uwX11, rfl, tyX11_ok, nmX11, rfl, by decide +kernel⟩
theorem fl_X11_54 : FLk RX11 54 11 18 := ⟨_, rfl, Nat.le_of_ble_eq_true rfl, gTbl_at (i := 1184) (by decide +kernel) rfl, uwX11, rfl⟩
theorem fl_X11_57 : FLk RX11 57 11 19 := ⟨_, rfl, Nat.le_of_ble_eq_true rfl, gTbl_at (i := 1185) (by decide +kernel) rfl, uwX11, rfl⟩
theorem fl_X11_60 : FLk RX11 60 11 20 := ⟨_, rfl, Nat.le_of_ble_eq_true rfl, gTbl_at (i := 1186) (by decide +kernel) rfl, uwX11, rfl⟩
theorem fl_X11_63 : FLk RX11 63 11 21 := ⟨_, rfl, Nat.le_of_ble_eq_true rfl, gTbl_at (i := 1187) (by decide +kernel) rfl, uwX11, rfl⟩
theorem fp_X11_192 : FPk RX11 192 11 37 .int := ⟨_, tyX11, rfl, Nat.le_of_ble_eq_true rfl, gTbl_at (i := 1203) (by decide +kernel) rfl, uwX11, rfl, tyX11_ok, nmX11, rfl, by decide +kernel⟩
theorem fl_X11_100 : FLk RX11 100 11 38 := ⟨_, rfl, Nat.le_of_ble_eq_true rfl, gTbl_at (i := 1204) (by decide +kernel) rfl, uwX11, rfl⟩
theorem ml_X11_261 : MLk RX11 261 yX11_takesPlace cX11_takesPlace 3 none 1 := MLk.of 1521 1523 53 73 1524 (by decide +kernel) (by decide +kernel) (by decide +kernel) (by decide +kernel) (by decide +kernel) ⟨(by decide +kernel), (by decide +kernel), (by decide +kernel)⟩
theorem ml_X11_128 : MLk RX11 128 yX11_isNode cX11_isNode 2 (some .boolean) 1 := MLk.of 1317 1319 19 73 1320 (by decide +kernel) (by decide +kernel) (by decide +kernel) (by decide +kernel) (by decide +kernel) ⟨(by decide +kernel), (by decide +kernel), (by decide +kernel)⟩
theorem ml_X11_157 : MLk RX11 157 yX11_isFileAt cX11_isFileAt 2 (some .boolean) 1 := MLk.of 1348 1350 25 73 1351 (by decide +kernel) (by decide +kernel) (by decide +kernel) (by decide +kernel) (by decide +kernel) ⟨(by decide +kernel), (by decide +kernel), (by decide +kernel)⟩
theorem ms_X11_299 : MSk RX11 299 yX11_isCloser cX11_isCloser 8 (some .boolean) 4 := MSk.of 1601 1602 73 1603 (by decide +kernel) (by decide +kernel) (by decide +kernel) (by decide +kernel) ⟨(by decide +kernel), (by decide +kernel), (by decide +kernel)⟩
theorem fl_X11_51 : FLk RX11 51 11 17 := ⟨_, rfl, Nat.le_of_ble_eq_true rfl, gTbl_at (i := 1183) (by decide +kernel) rfl, uwX11, rfl⟩
theorem fl_X11_42 : FLk RX11 42 11 14 := ⟨_, rfl, Nat.le_of_ble_eq_true rfl, gTbl_at (i := 1180) (by decide +kernel) rfl, uwX11, rfl⟩
theorem fl_X11_45 : FLk RX11 45 11 15 := ⟨_, rfl, Nat.le_of_ble_eq_true rfl, gTbl_at (i := 1181) (by decide +kernel) rfl, uwX11, rfl⟩
theorem fl_X11_48 : FLk RX11 48 11 16 := ⟨_, rfl, Nat.le_of_ble_eq_true rfl, gTbl_at (i := 1182) (by decide +kernel) rfl, uwX11, rfl⟩
theorem ml_X11_180 : MLk RX11 180 yX11_beginsCrawl cX11_beginsCrawl 3 none 1 := MLk.of 1408 1410 32 73 1411 (by decide +kernel) (by decide +kernel) (by decide +kernel) (by decide +kernel) (by decide +kernel) ⟨(by decide +kernel), (by decide +kernel), (by decide +kernel)⟩
theorem ml_X11_213 : MLk RX11 213 yX11_isKnown cX11_isKnown 2 (some .boolean) 1 := MLk.of 1501 1503 48 73 1504 (by decide +kernel) (by decide +kernel) (by decide +kernel) (by decide +kernel) (by decide +kernel) ⟨(by decide +kernel), (by decide +kernel), (by decide +kernel)⟩
theorem ml_X11_216 : MLk RX11 216 yX11_isWaiting cX11_isWaiting 5 (some .boolean) 2 := MLk.of 1505 1507 49 73 1508 (by decide +kernel) (by decide +kernel) (by decide +kernel) (by decide +kernel) (by decide +kernel) ⟨(by decide +kernel), (by decide +kernel), (by decide +kernel)⟩
theorem ml_X11_219 : MLk RX11 219 yX11_firstNoticed cX11_firstNoticed 3 (some .int) 0 := MLk.of 1445 1447 34 73 1448 (by decide +kernel) (by decide +kernel) (by decide +kernel) (by decide +kernel) (by decide +kernel) ⟨(by decide +kernel), (by decide +kernel), (by decide +kernel)⟩
theorem ml_X11_223 : MLk RX11 223 yX11_firstAct cX11_firstAct 3 (some .int) 0 := MLk.of 1449 1451 35 73 1452 (by decide +kernel) (by decide +kernel) (by decide +kernel) (by decide +kernel) (by decide +kernel) ⟨(by decide +kernel), (by decide +kernel), (by decide +kernel)⟩
theorem ml_X11_226 : MLk RX11 226 yX11_firstCrawl cX11_firstCrawl 3 (some .int) 0 := MLk.of 1453 1455 36 73 1456 (by decide +kernel) (by decide +kernel) (by decide +kernel) (by decide +kernel) (by decide +kernel) ⟨(by decide +kernel), (by decide +kernel), (by decide +kernel)⟩
theorem ml_X11_229 : MLk RX11 229 yX11_cost cX11_cost 4 (some .int) 1 := MLk.of 1457 1459 37 73 1460 (by decide +kernel) (by decide +kernel) (by decide +kernel) (by decide +kernel) (by decide +kernel) ⟨(by decide +kernel), (by decide +kernel), (by decide +kernel)⟩
theorem ml_X11_238 : MLk RX11 238 yX11_goesOn cX11_goesOn 4 none 1 := MLk.of 1497 1499 47 73 1500 (by decide +kernel) (by decide +kernel) (by decide +kernel) (by decide +kernel) (by decide +kernel) ⟨(by decide +kernel), (by decide +kernel), (by decide +kernel)⟩
theorem ml_X11_235 : MLk RX11 235 yX11_acts cX11_acts 5 none 1 := MLk.of 1465 1467 39 73 1468 (by decide +kernel) (by decide +kernel) (by decide +kernel) (by decide +kernel) (by decide +kernel) ⟨(by decide +kernel), (by decide +kernel), (by decide +kernel)⟩
theorem ml_X11_232 : MLk RX11 232 yX11_notes cX11_notes 3 none 1 := MLk.of 1461 1463 38 73 1464 (by decide +kernel) (by decide +kernel) (by decide +kernel) (by decide +kernel) (by decide +kernel) ⟨(by decide +kernel), (by decide +kernel), (by decide +kernel)⟩
theorem fp_X11_132 : FPk RX11 132 11 12 .int := ⟨_, tyX11, rfl, Nat.le_of_ble_eq_true rfl, gTbl_at (i := 1178) (by decide +kernel) rfl, uwX11, rfl, tyX11_ok, nmX11, rfl, by decide +kernel⟩
theorem ml_X11_153 : MLk RX11 153 yX11_comes cX11_comes 4 none 3 := MLk.of 1340 1342 24 73 1343 (by decide +kernel) (by decide +kernel) (by decide +kernel) (by decide +kernel) (by decide +kernel) ⟨(by decide +kernel), (by decide +kernel), (by decide +kernel)⟩
theorem fl_X11_264 : FLk RX11 264 11 41 := ⟨_, rfl, Nat.le_of_ble_eq_true rfl, gTbl_at (i := 1207) (by decide +kernel) rfl, uwX11, rfl⟩
theorem fp_X11_264 : FPk RX11 264 11 41 .int := ⟨_, tyX11, rfl, Nat.le_of_ble_eq_true rfl, gTbl_at (i := 1207) (by decide +kernel) rfl, uwX11, rfl, tyX11_ok, nmX11, rfl, by decide +kernel⟩
theorem ml_X11_267 : MLk RX11 267 yX11_count cX11_count 5 (some .int) 2 := MLk.of 1513 1515 51 73 1516 (by decide +kernel) (by decide +kernel) (by decide +kernel) (by decide +kernel) (by decide +kernel) ⟨(by decide +kernel), (by decide +kernel), (by decide +kernel)⟩
theorem ml_X11_271 : MLk RX11 271 yX11_cleans cX11_cleans 3 none 1 := MLk.of 1517 1519 52 73 1520 (by decide +kernel) (by decide +kernel) (by decide +kernel) (by decide +kernel) (by decide +kernel) ⟨(by decide +kernel), (by decide +kernel), (by decide +kernel)⟩
theorem ml_X11_274 : MLk RX11 274 yX11_joins cX11_joins 3 none 1 := MLk.of 1525 1527 54 73 1528 (by decide +kernel) (by decide +kernel) (by decide +kernel) (by decide +kernel) (by decide +kernel) ⟨(by decide +kernel), (by decide +kernel), (by decide +kernel)⟩
theorem fp_X11_84 : FPk RX11 84 11 28 .int := ⟨_, tyX11, rfl, Nat.le_of_ble_eq_true rfl, gTbl_at (i := 1194) (by decide +kernel) rfl, uwX11, rfl, tyX11_ok, nmX11, rfl, by decide +kernel⟩
theorem fp_X11_88 : FPk RX11 88 11 29 .int := ⟨_, tyX11, rfl, Nat.le_of_ble_eq_true rfl, gTbl_at (i := 1195) (by decide +kernel) rfl, uwX11, rfl, tyX11_ok, nmX11, rfl, by decide +kernel⟩
theorem ml_X11_139 : MLk RX11 139 yX11_isFolderAt cX11_isFolderAt 2 (some .boolean) 1 := MLk.of 1313 1315 18 73 1316 (by decide +kernel) (by decide +kernel) (by decide +kernel) (by decide +kernel) (by decide +kernel) ⟨(by decide +kernel), (by decide +kernel), (by decide +kernel)⟩
theorem ml_X11_146 : MLk RX11 146 yX11_isTaken cX11_isTaken 6 (some .boolean) 3 := MLk.of 1328 1330 21 73 1331 (by decide +kernel) (by decide +kernel) (by decide +kernel) (by decide +kernel) (by decide +kernel) ⟨(by decide +kernel), (by decide +kernel), (by decide +kernel)⟩
theorem fp_X11_118 : FPk RX11 118 11 2 .int := ⟨_, tyX11, rfl, Nat.le_of_ble_eq_true rfl, gTbl_at (i := 1168) (by decide +kernel) rfl, uwX11, rfl, tyX11_ok, nmX11, rfl, by decide +kernel⟩
theorem ml_X11_160 : MLk RX11 160 yX11_holdsRoot cX11_holdsRoot 4 (some .boolean) 1 := MLk.of 1360 1362 26 73 1363 (by decide +kernel) (by decide +kernel) (by decide +kernel) (by decide +kernel) (by decide +kernel) ⟨(by decide +kernel), (by decide +kernel), (by decide +kernel)⟩
theorem fl_X11_241 : FLk RX11 241 11 1 := ⟨_, rfl, Nat.le_of_ble_eq_true rfl, gTbl_at (i := 1167) (by decide +kernel) rfl, uwX11, rfl⟩
theorem kc_X11_244 : Cond.constant RX11 244 100000 ∈ gTbl := gTbl_at (i := 1428) (by decide +kernel) rfl
theorem fp_X11_241 : FPk RX11 241 11 1 .int := ⟨_, tyX11, rfl, Nat.le_of_ble_eq_true rfl, gTbl_at (i := 1167) (by decide +kernel) rfl, uwX11, rfl, tyX11_ok, nmX11, rfl, by decide +kernel⟩
theorem ml_X11_170 : MLk RX11 170 yX11_looksAtLost cX11_looksAtLost 2 none 0 := MLk.of 1376 1378 29 73 1379 (by decide +kernel) (by decide +kernel) (by decide +kernel) (by decide +kernel) (by decide +kernel) ⟨(by decide +kernel), (by decide +kernel), (by decide +kernel)⟩
theorem ml_X11_166 : MLk RX11 166 yX11_drops cX11_drops 4 none 1 := MLk.of 1372 1374 28 73 1375 (by decide +kernel) (by decide +kernel) (by decide +kernel) (by decide +kernel) (by decide +kernel) ⟨(by decide +kernel), (by decide +kernel), (by decide +kernel)⟩
theorem fl_X11_249 : FLk RX11 249 11 35 := ⟨_, rfl, Nat.le_of_ble_eq_true rfl, gTbl_at (i := 1201) (by decide +kernel) rfl, uwX11, rfl⟩
theorem fl_X11_252 : FLk RX11 252 11 36 := ⟨_, rfl, Nat.le_of_ble_eq_true rfl, gTbl_at (i := 1202) (by decide +kernel) rfl, uwX11, rfl⟩
theorem fp_X11_252 : FPk RX11 252 11 36 .int := ⟨_, tyX11, rfl, Nat.le_of_ble_eq_true rfl, gTbl_at (i := 1202) (by decide +kernel) rfl, uwX11, rfl, tyX11_ok, nmX11, rfl, by decide +kernel⟩
theorem fp_X11_249 : FPk RX11 249 11 35 .int := ⟨_, tyX11, rfl, Nat.le_of_ble_eq_true rfl, gTbl_at (i := 1201) (by decide +kernel) rfl, uwX11, rfl, tyX11_ok, nmX11, rfl, by decide +kernel⟩
theorem ml_X11_255 : MLk RX11 255 yX11_does cX11_does 6 (some .int) 1 := MLk.of 1441 1443 33 73 1444 (by decide +kernel) (by decide +kernel) (by decide +kernel) (by decide +kernel) (by decide +kernel) ⟨(by decide +kernel), (by decide +kernel), (by decide +kernel)⟩
theorem ml_X11_258 : MLk RX11 258 yX11_indexes cX11_indexes 4 none 0 := MLk.of 1509 1511 50 73 1512 (by decide +kernel) (by decide +kernel) (by decide +kernel) (by decide +kernel) (by decide +kernel) ⟨(by decide +kernel), (by decide +kernel), (by decide +kernel)⟩
end
section
theorem dX0_count_0 : decode cX0_count 0 = .ok (.aload_n 0, 1) := by decide +kernel
theorem dX0_count_1 : decode cX0_count 1 = .ok (.getfield 22, 3) := by decide +kernel
theorem dX0_count_4 : decode cX0_count 4 = .ok (.ireturn, 1) := by decide +kernel
theorem dX0_kindOf_0 : decode cX0_kindOf 0 = .ok (.iload_n 1, 1) := by decide +kernel
theorem dX0_kindOf_1 : decode cX0_kindOf 1 = .ok (.ifCond .lt 18, 3) := by decide +kernel
theorem dX0_kindOf_4 : decode cX0_kindOf 4 = .ok (.iload_n 1, 1) := by decide +kernel
theorem dX0_kindOf_5 : decode cX0_kindOf 5 = .ok (.bipush 60, 2) := by decide +kernel
theorem dX0_kindOf_7 : decode cX0_kindOf 7 = .ok (.if_icmp .ge 12, 3) := by decide +kernel
theorem dX0_kindOf_10 : decode cX0_kindOf 10 = .ok (.aload_n 0, 1) := by decide +kernel
theorem dX0_kindOf_11 : decode cX0_kindOf 11 = .ok (.getfield 15, 3) := by decide +kernel
theorem dX0_kindOf_14 : decode cX0_kindOf 14 = .ok (.iload_n 1, 1) := by decide +kernel
theorem dX0_kindOf_15 : decode cX0_kindOf 15 = .ok (.iaload, 1) := by decide +kernel
theorem dX0_kindOf_16 : decode cX0_kindOf 16 = .ok (.goto 4, 3) := by decide +kernel
theorem dX0_kindOf_19 : decode cX0_kindOf 19 = .ok (.iconst 0, 1) := by decide +kernel
theorem dX0_kindOf_20 : decode cX0_kindOf 20 = .ok (.ireturn, 1) := by decide +kernel
theorem dX0_add_0 : decode cX0_add 0 = .ok (.iload_n 1, 1) := by decide +kernel
theorem dX0_add_1 : decode cX0_add 1 = .ok (.ifCond .lt 9, 3) := by decide +kernel
theorem dX0_add_4 : decode cX0_add 4 = .ok (.iload_n 1, 1) := by decide +kernel
theorem dX0_add_5 : decode cX0_add 5 = .ok (.bipush 60, 2) := by decide +kernel
theorem dX0_add_7 : decode cX0_add 7 = .ok (.if_icmp .lt 4, 3) := by decide +kernel
theorem dX0_add_10 : decode cX0_add 10 = .ok (.return_, 1) := by decide +kernel
theorem dX0_add_11 : decode cX0_add 11 = .ok (.aload_n 0, 1) := by decide +kernel
theorem dX0_add_12 : decode cX0_add 12 = .ok (.getfield 15, 3) := by decide +kernel
theorem dX0_add_15 : decode cX0_add 15 = .ok (.iload_n 1, 1) := by decide +kernel
theorem dX0_add_16 : decode cX0_add 16 = .ok (.iaload, 1) := by decide +kernel
theorem dX0_add_17 : decode cX0_add 17 = .ok (.ifCond .ne 39, 3) := by decide +kernel
theorem dX0_add_20 : decode cX0_add 20 = .ok (.aload_n 0, 1) := by decide +kernel
theorem dX0_add_21 : decode cX0_add 21 = .ok (.getfield 22, 3) := by decide +kernel
theorem dX0_add_24 : decode cX0_add 24 = .ok (.ifCond .lt 32, 3) := by decide +kernel
theorem dX0_add_27 : decode cX0_add 27 = .ok (.aload_n 0, 1) := by decide +kernel
theorem dX0_add_28 : decode cX0_add 28 = .ok (.getfield 22, 3) := by decide +kernel
theorem dX0_add_31 : decode cX0_add 31 = .ok (.bipush 60, 2) := by decide +kernel
theorem dX0_add_33 : decode cX0_add 33 = .ok (.if_icmp .ge 23, 3) := by decide +kernel
theorem dX0_add_36 : decode cX0_add 36 = .ok (.aload_n 0, 1) := by decide +kernel
theorem dX0_add_37 : decode cX0_add 37 = .ok (.getfield 9, 3) := by decide +kernel
theorem dX0_add_40 : decode cX0_add 40 = .ok (.aload_n 0, 1) := by decide +kernel
theorem dX0_add_41 : decode cX0_add 41 = .ok (.getfield 22, 3) := by decide +kernel
theorem dX0_add_44 : decode cX0_add 44 = .ok (.iload_n 1, 1) := by decide +kernel
theorem dX0_add_45 : decode cX0_add 45 = .ok (.iastore, 1) := by decide +kernel
theorem dX0_add_46 : decode cX0_add 46 = .ok (.aload_n 0, 1) := by decide +kernel
theorem dX0_add_47 : decode cX0_add 47 = .ok (.dup, 1) := by decide +kernel
theorem dX0_add_48 : decode cX0_add 48 = .ok (.getfield 22, 3) := by decide +kernel
theorem dX0_add_51 : decode cX0_add 51 = .ok (.iconst 1, 1) := by decide +kernel
theorem dX0_add_52 : decode cX0_add 52 = .ok (.iadd, 1) := by decide +kernel
theorem dX0_add_53 : decode cX0_add 53 = .ok (.putfield 22, 3) := by decide +kernel
theorem dX0_add_56 : decode cX0_add 56 = .ok (.aload_n 0, 1) := by decide +kernel
theorem dX0_add_57 : decode cX0_add 57 = .ok (.getfield 15, 3) := by decide +kernel
theorem dX0_add_60 : decode cX0_add 60 = .ok (.iload_n 1, 1) := by decide +kernel
theorem dX0_add_61 : decode cX0_add 61 = .ok (.iload_n 2, 1) := by decide +kernel
theorem dX0_add_62 : decode cX0_add 62 = .ok (.iastore, 1) := by decide +kernel
theorem dX0_add_63 : decode cX0_add 63 = .ok (.return_, 1) := by decide +kernel
theorem dX0_firstReady_0 : decode cX0_firstReady 0 = .ok (.iconst 0, 1) := by decide +kernel
theorem dX0_firstReady_1 : decode cX0_firstReady 1 = .ok (.istore_n 1, 1) := by decide +kernel
theorem dX0_firstReady_2 : decode cX0_firstReady 2 = .ok (.iload_n 1, 1) := by decide +kernel
theorem dX0_firstReady_3 : decode cX0_firstReady 3 = .ok (.aload_n 0, 1) := by decide +kernel
theorem dX0_firstReady_4 : decode cX0_firstReady 4 = .ok (.getfield 22, 3) := by decide +kernel
theorem dX0_firstReady_7 : decode cX0_firstReady 7 = .ok (.if_icmp .ge 43, 3) := by decide +kernel
theorem dX0_firstReady_10 : decode cX0_firstReady 10 = .ok (.iload_n 1, 1) := by decide +kernel
theorem dX0_firstReady_11 : decode cX0_firstReady 11 = .ok (.bipush 60, 2) := by decide +kernel
theorem dX0_firstReady_13 : decode cX0_firstReady 13 = .ok (.if_icmp .ge 37, 3) := by decide +kernel
theorem dX0_firstReady_16 : decode cX0_firstReady 16 = .ok (.aload_n 0, 1) := by decide +kernel
theorem dX0_firstReady_17 : decode cX0_firstReady 17 = .ok (.getfield 9, 3) := by decide +kernel
theorem dX0_firstReady_20 : decode cX0_firstReady 20 = .ok (.iload_n 1, 1) := by decide +kernel
theorem dX0_firstReady_21 : decode cX0_firstReady 21 = .ok (.iaload, 1) := by decide +kernel
theorem dX0_firstReady_22 : decode cX0_firstReady 22 = .ok (.istore_n 2, 1) := by decide +kernel
theorem dX0_firstReady_23 : decode cX0_firstReady 23 = .ok (.iload_n 2, 1) := by decide +kernel
theorem dX0_firstReady_24 : decode cX0_firstReady 24 = .ok (.ifCond .lt 20, 3) := by decide +kernel
theorem dX0_firstReady_27 : decode cX0_firstReady 27 = .ok (.iload_n 2, 1) := by decide +kernel
theorem dX0_firstReady_28 : decode cX0_firstReady 28 = .ok (.bipush 60, 2) := by decide +kernel
theorem dX0_firstReady_30 : decode cX0_firstReady 30 = .ok (.if_icmp .ge 14, 3) := by decide +kernel
theorem dX0_firstReady_33 : decode cX0_firstReady 33 = .ok (.aload_n 0, 1) := by decide +kernel
theorem dX0_firstReady_34 : decode cX0_firstReady 34 = .ok (.getfield 18, 3) := by decide +kernel
theorem dX0_firstReady_37 : decode cX0_firstReady 37 = .ok (.iload_n 2, 1) := by decide +kernel
theorem dX0_firstReady_38 : decode cX0_firstReady 38 = .ok (.baload, 1) := by decide +kernel
theorem dX0_firstReady_39 : decode cX0_firstReady 39 = .ok (.ifCond .ne 5, 3) := by decide +kernel
theorem dX0_firstReady_42 : decode cX0_firstReady 42 = .ok (.iload_n 2, 1) := by decide +kernel
theorem dX0_firstReady_43 : decode cX0_firstReady 43 = .ok (.ireturn, 1) := by decide +kernel
theorem dX0_firstReady_44 : decode cX0_firstReady 44 = .ok (.iinc 1 1, 3) := by decide +kernel
theorem dX0_firstReady_47 : decode cX0_firstReady 47 = .ok (.goto (-45), 3) := by decide +kernel
theorem dX0_firstReady_50 : decode cX0_firstReady 50 = .ok (.iconst (-1), 1) := by decide +kernel
theorem dX0_firstReady_51 : decode cX0_firstReady 51 = .ok (.ireturn, 1) := by decide +kernel
theorem dX0_takeAway_0 : decode cX0_takeAway 0 = .ok (.aload_n 0, 1) := by decide +kernel
theorem dX0_takeAway_1 : decode cX0_takeAway 1 = .ok (.iload_n 1, 1) := by decide +kernel
theorem dX0_takeAway_2 : decode cX0_takeAway 2 = .ok (.invokevirtual 26, 3) := by decide +kernel
theorem dX0_takeAway_5 : decode cX0_takeAway 5 = .ok (.ifCond .ne 4, 3) := by decide +kernel
theorem dX0_takeAway_8 : decode cX0_takeAway 8 = .ok (.return_, 1) := by decide +kernel
theorem dX0_takeAway_9 : decode cX0_takeAway 9 = .ok (.aload_n 0, 1) := by decide +kernel
theorem dX0_takeAway_10 : decode cX0_takeAway 10 = .ok (.getfield 15, 3) := by decide +kernel
theorem dX0_takeAway_13 : decode cX0_takeAway 13 = .ok (.iload_n 1, 1) := by decide +kernel
theorem dX0_takeAway_14 : decode cX0_takeAway 14 = .ok (.iconst 0, 1) := by decide +kernel
theorem dX0_takeAway_15 : decode cX0_takeAway 15 = .ok (.iastore, 1) := by decide +kernel
theorem dX0_takeAway_16 : decode cX0_takeAway 16 = .ok (.iconst 0, 1) := by decide +kernel
theorem dX0_takeAway_17 : decode cX0_takeAway 17 = .ok (.istore_n 2, 1) := by decide +kernel
theorem dX0_takeAway_18 : decode cX0_takeAway 18 = .ok (.iconst 0, 1) := by decide +kernel
theorem dX0_takeAway_19 : decode cX0_takeAway 19 = .ok (.istore_n 3, 1) := by decide +kernel
theorem dX0_takeAway_20 : decode cX0_takeAway 20 = .ok (.iload_n 3, 1) := by decide +kernel
theorem dX0_takeAway_21 : decode cX0_takeAway 21 = .ok (.aload_n 0, 1) := by decide +kernel
theorem dX0_takeAway_22 : decode cX0_takeAway 22 = .ok (.getfield 22, 3) := by decide +kernel
theorem dX0_takeAway_25 : decode cX0_takeAway 25 = .ok (.if_icmp .ge 46, 3) := by decide +kernel
theorem dX0_takeAway_28 : decode cX0_takeAway 28 = .ok (.iload_n 3, 1) := by decide +kernel
theorem dX0_takeAway_29 : decode cX0_takeAway 29 = .ok (.bipush 60, 2) := by decide +kernel
theorem dX0_takeAway_31 : decode cX0_takeAway 31 = .ok (.if_icmp .ge 40, 3) := by decide +kernel
theorem dX0_takeAway_34 : decode cX0_takeAway 34 = .ok (.aload_n 0, 1) := by decide +kernel
theorem dX0_takeAway_35 : decode cX0_takeAway 35 = .ok (.getfield 9, 3) := by decide +kernel
theorem dX0_takeAway_38 : decode cX0_takeAway 38 = .ok (.iload_n 3, 1) := by decide +kernel
theorem dX0_takeAway_39 : decode cX0_takeAway 39 = .ok (.iaload, 1) := by decide +kernel
theorem dX0_takeAway_40 : decode cX0_takeAway 40 = .ok (.iload_n 1, 1) := by decide +kernel
theorem dX0_takeAway_41 : decode cX0_takeAway 41 = .ok (.if_icmp .eq 24, 3) := by decide +kernel
theorem dX0_takeAway_44 : decode cX0_takeAway 44 = .ok (.iload_n 2, 1) := by decide +kernel
theorem dX0_takeAway_45 : decode cX0_takeAway 45 = .ok (.bipush 60, 2) := by decide +kernel
theorem dX0_takeAway_47 : decode cX0_takeAway 47 = .ok (.if_icmp .ge 18, 3) := by decide +kernel
theorem dX0_takeAway_50 : decode cX0_takeAway 50 = .ok (.aload_n 0, 1) := by decide +kernel
theorem dX0_takeAway_51 : decode cX0_takeAway 51 = .ok (.getfield 9, 3) := by decide +kernel
theorem dX0_takeAway_54 : decode cX0_takeAway 54 = .ok (.iload_n 2, 1) := by decide +kernel
theorem dX0_takeAway_55 : decode cX0_takeAway 55 = .ok (.aload_n 0, 1) := by decide +kernel
theorem dX0_takeAway_56 : decode cX0_takeAway 56 = .ok (.getfield 9, 3) := by decide +kernel
theorem dX0_takeAway_59 : decode cX0_takeAway 59 = .ok (.iload_n 3, 1) := by decide +kernel
theorem dX0_takeAway_60 : decode cX0_takeAway 60 = .ok (.iaload, 1) := by decide +kernel
theorem dX0_takeAway_61 : decode cX0_takeAway 61 = .ok (.iastore, 1) := by decide +kernel
theorem dX0_takeAway_62 : decode cX0_takeAway 62 = .ok (.iinc 2 1, 3) := by decide +kernel
theorem dX0_takeAway_65 : decode cX0_takeAway 65 = .ok (.iinc 3 1, 3) := by decide +kernel
theorem dX0_takeAway_68 : decode cX0_takeAway 68 = .ok (.goto (-48), 3) := by decide +kernel
theorem dX0_takeAway_71 : decode cX0_takeAway 71 = .ok (.aload_n 0, 1) := by decide +kernel
theorem dX0_takeAway_72 : decode cX0_takeAway 72 = .ok (.iload_n 2, 1) := by decide +kernel
theorem dX0_takeAway_73 : decode cX0_takeAway 73 = .ok (.putfield 22, 3) := by decide +kernel
theorem dX0_takeAway_76 : decode cX0_takeAway 76 = .ok (.return_, 1) := by decide +kernel
theorem dX0_putOff_0 : decode cX0_putOff 0 = .ok (.aload_n 0, 1) := by decide +kernel
theorem dX0_putOff_1 : decode cX0_putOff 1 = .ok (.iload_n 1, 1) := by decide +kernel
theorem dX0_putOff_2 : decode cX0_putOff 2 = .ok (.invokevirtual 30, 3) := by decide +kernel
theorem dX0_putOff_5 : decode cX0_putOff 5 = .ok (.aload_n 0, 1) := by decide +kernel
theorem dX0_putOff_6 : decode cX0_putOff 6 = .ok (.iload_n 1, 1) := by decide +kernel
theorem dX0_putOff_7 : decode cX0_putOff 7 = .ok (.iconst 1, 1) := by decide +kernel
theorem dX0_putOff_8 : decode cX0_putOff 8 = .ok (.invokevirtual 34, 3) := by decide +kernel
theorem dX0_putOff_11 : decode cX0_putOff 11 = .ok (.iload_n 1, 1) := by decide +kernel
theorem dX0_putOff_12 : decode cX0_putOff 12 = .ok (.ifCond .lt 16, 3) := by decide +kernel
theorem dX0_putOff_15 : decode cX0_putOff 15 = .ok (.iload_n 1, 1) := by decide +kernel
theorem dX0_putOff_16 : decode cX0_putOff 16 = .ok (.bipush 60, 2) := by decide +kernel
theorem dX0_putOff_18 : decode cX0_putOff 18 = .ok (.if_icmp .ge 10, 3) := by decide +kernel
theorem dX0_putOff_21 : decode cX0_putOff 21 = .ok (.aload_n 0, 1) := by decide +kernel
theorem dX0_putOff_22 : decode cX0_putOff 22 = .ok (.getfield 18, 3) := by decide +kernel
theorem dX0_putOff_25 : decode cX0_putOff 25 = .ok (.iload_n 1, 1) := by decide +kernel
theorem dX0_putOff_26 : decode cX0_putOff 26 = .ok (.iconst 1, 1) := by decide +kernel
theorem dX0_putOff_27 : decode cX0_putOff 27 = .ok (.bastore, 1) := by decide +kernel
theorem dX0_putOff_28 : decode cX0_putOff 28 = .ok (.return_, 1) := by decide +kernel
theorem dX0_endWork_0 : decode cX0_endWork 0 = .ok (.iconst 0, 1) := by decide +kernel
theorem dX0_endWork_1 : decode cX0_endWork 1 = .ok (.istore_n 1, 1) := by decide +kernel
theorem dX0_endWork_2 : decode cX0_endWork 2 = .ok (.iload_n 1, 1) := by decide +kernel
theorem dX0_endWork_3 : decode cX0_endWork 3 = .ok (.bipush 60, 2) := by decide +kernel
theorem dX0_endWork_5 : decode cX0_endWork 5 = .ok (.if_icmp .ge 16, 3) := by decide +kernel
theorem dX0_endWork_8 : decode cX0_endWork 8 = .ok (.aload_n 0, 1) := by decide +kernel
theorem dX0_endWork_9 : decode cX0_endWork 9 = .ok (.getfield 18, 3) := by decide +kernel
theorem dX0_endWork_12 : decode cX0_endWork 12 = .ok (.iload_n 1, 1) := by decide +kernel
theorem dX0_endWork_13 : decode cX0_endWork 13 = .ok (.iconst 0, 1) := by decide +kernel
theorem dX0_endWork_14 : decode cX0_endWork 14 = .ok (.bastore, 1) := by decide +kernel
theorem dX0_endWork_15 : decode cX0_endWork 15 = .ok (.iinc 1 1, 3) := by decide +kernel
theorem dX0_endWork_18 : decode cX0_endWork 18 = .ok (.goto (-16), 3) := by decide +kernel
theorem dX0_endWork_21 : decode cX0_endWork 21 = .ok (.return_, 1) := by decide +kernel
theorem dX1_startAnew_0 : decode cX1_startAnew 0 = .ok (.iconst 0, 1) := by decide +kernel
theorem dX1_startAnew_1 : decode cX1_startAnew 1 = .ok (.istore_n 2, 1) := by decide +kernel
theorem dX1_startAnew_2 : decode cX1_startAnew 2 = .ok (.iload_n 2, 1) := by decide +kernel
theorem dX1_startAnew_3 : decode cX1_startAnew 3 = .ok (.bipush 60, 2) := by decide +kernel
theorem dX1_startAnew_5 : decode cX1_startAnew 5 = .ok (.if_icmp .ge 23, 3) := by decide +kernel
theorem dX1_startAnew_8 : decode cX1_startAnew 8 = .ok (.aload_n 0, 1) := by decide +kernel
theorem dX1_startAnew_9 : decode cX1_startAnew 9 = .ok (.getfield 15, 3) := by decide +kernel
theorem dX1_startAnew_12 : decode cX1_startAnew 12 = .ok (.iload_n 2, 1) := by decide +kernel
theorem dX1_startAnew_13 : decode cX1_startAnew 13 = .ok (.iconst 0, 1) := by decide +kernel
theorem dX1_startAnew_14 : decode cX1_startAnew 14 = .ok (.bastore, 1) := by decide +kernel
theorem dX1_startAnew_15 : decode cX1_startAnew 15 = .ok (.aload_n 0, 1) := by decide +kernel
theorem dX1_startAnew_16 : decode cX1_startAnew 16 = .ok (.getfield 19, 3) := by decide +kernel
theorem dX1_startAnew_19 : decode cX1_startAnew 19 = .ok (.iload_n 2, 1) := by decide +kernel
theorem dX1_startAnew_20 : decode cX1_startAnew 20 = .ok (.iconst 0, 1) := by decide +kernel
theorem dX1_startAnew_21 : decode cX1_startAnew 21 = .ok (.bastore, 1) := by decide +kernel
theorem dX1_startAnew_22 : decode cX1_startAnew 22 = .ok (.iinc 2 1, 3) := by decide +kernel
theorem dX1_startAnew_25 : decode cX1_startAnew 25 = .ok (.goto (-23), 3) := by decide +kernel
theorem dX1_startAnew_28 : decode cX1_startAnew 28 = .ok (.aload_n 0, 1) := by decide +kernel
theorem dX1_startAnew_29 : decode cX1_startAnew 29 = .ok (.iconst 0, 1) := by decide +kernel
theorem dX1_startAnew_30 : decode cX1_startAnew 30 = .ok (.putfield 22, 3) := by decide +kernel
theorem dX1_startAnew_33 : decode cX1_startAnew 33 = .ok (.aload_n 0, 1) := by decide +kernel
theorem dX1_startAnew_34 : decode cX1_startAnew 34 = .ok (.iconst 1, 1) := by decide +kernel
theorem dX1_startAnew_35 : decode cX1_startAnew 35 = .ok (.putfield 26, 3) := by decide +kernel
theorem dX1_startAnew_38 : decode cX1_startAnew 38 = .ok (.aload_n 0, 1) := by decide +kernel
theorem dX1_startAnew_39 : decode cX1_startAnew 39 = .ok (.iload_n 1, 1) := by decide +kernel
theorem dX1_startAnew_40 : decode cX1_startAnew 40 = .ok (.invokevirtual 30, 3) := by decide +kernel
theorem dX1_startAnew_43 : decode cX1_startAnew 43 = .ok (.return_, 1) := by decide +kernel
theorem dX1_letWait_0 : decode cX1_letWait 0 = .ok (.iload_n 1, 1) := by decide +kernel
theorem dX1_letWait_1 : decode cX1_letWait 1 = .ok (.ifCond .lt 13, 3) := by decide +kernel
theorem dX1_letWait_4 : decode cX1_letWait 4 = .ok (.iload_n 1, 1) := by decide +kernel
theorem dX1_letWait_5 : decode cX1_letWait 5 = .ok (.bipush 60, 2) := by decide +kernel
theorem dX1_letWait_7 : decode cX1_letWait 7 = .ok (.if_icmp .ge 7, 3) := by decide +kernel
theorem dX1_letWait_10 : decode cX1_letWait 10 = .ok (.iconst 1, 1) := by decide +kernel
theorem dX1_letWait_11 : decode cX1_letWait 11 = .ok (.goto 4, 3) := by decide +kernel
theorem dX1_letWait_14 : decode cX1_letWait 14 = .ok (.iconst 0, 1) := by decide +kernel
theorem dX1_letWait_15 : decode cX1_letWait 15 = .ok (.istore_n 2, 1) := by decide +kernel
theorem dX1_letWait_16 : decode cX1_letWait 16 = .ok (.iload_n 2, 1) := by decide +kernel
theorem dX1_letWait_17 : decode cX1_letWait 17 = .ok (.ifCond .eq 55, 3) := by decide +kernel
theorem dX1_letWait_20 : decode cX1_letWait 20 = .ok (.aload_n 0, 1) := by decide +kernel
theorem dX1_letWait_21 : decode cX1_letWait 21 = .ok (.getfield 15, 3) := by decide +kernel
theorem dX1_letWait_24 : decode cX1_letWait 24 = .ok (.iload_n 1, 1) := by decide +kernel
theorem dX1_letWait_25 : decode cX1_letWait 25 = .ok (.baload, 1) := by decide +kernel
theorem dX1_letWait_26 : decode cX1_letWait 26 = .ok (.ifCond .ne 46, 3) := by decide +kernel
theorem dX1_letWait_29 : decode cX1_letWait 29 = .ok (.aload_n 0, 1) := by decide +kernel
theorem dX1_letWait_30 : decode cX1_letWait 30 = .ok (.getfield 22, 3) := by decide +kernel
theorem dX1_letWait_33 : decode cX1_letWait 33 = .ok (.ifCond .lt 39, 3) := by decide +kernel
theorem dX1_letWait_36 : decode cX1_letWait 36 = .ok (.aload_n 0, 1) := by decide +kernel
theorem dX1_letWait_37 : decode cX1_letWait 37 = .ok (.getfield 22, 3) := by decide +kernel
theorem dX1_letWait_40 : decode cX1_letWait 40 = .ok (.bipush 60, 2) := by decide +kernel
theorem dX1_letWait_42 : decode cX1_letWait 42 = .ok (.if_icmp .ge 30, 3) := by decide +kernel
theorem dX1_letWait_45 : decode cX1_letWait 45 = .ok (.aload_n 0, 1) := by decide +kernel
theorem dX1_letWait_46 : decode cX1_letWait 46 = .ok (.getfield 9, 3) := by decide +kernel
theorem dX1_letWait_49 : decode cX1_letWait 49 = .ok (.aload_n 0, 1) := by decide +kernel
theorem dX1_letWait_50 : decode cX1_letWait 50 = .ok (.getfield 22, 3) := by decide +kernel
theorem dX1_letWait_53 : decode cX1_letWait 53 = .ok (.iload_n 1, 1) := by decide +kernel
theorem dX1_letWait_54 : decode cX1_letWait 54 = .ok (.iastore, 1) := by decide +kernel
theorem dX1_letWait_55 : decode cX1_letWait 55 = .ok (.aload_n 0, 1) := by decide +kernel
theorem dX1_letWait_56 : decode cX1_letWait 56 = .ok (.getfield 15, 3) := by decide +kernel
theorem dX1_letWait_59 : decode cX1_letWait 59 = .ok (.iload_n 1, 1) := by decide +kernel
theorem dX1_letWait_60 : decode cX1_letWait 60 = .ok (.iconst 1, 1) := by decide +kernel
theorem dX1_letWait_61 : decode cX1_letWait 61 = .ok (.bastore, 1) := by decide +kernel
theorem dX1_letWait_62 : decode cX1_letWait 62 = .ok (.aload_n 0, 1) := by decide +kernel
theorem dX1_letWait_63 : decode cX1_letWait 63 = .ok (.dup, 1) := by decide +kernel
theorem dX1_letWait_64 : decode cX1_letWait 64 = .ok (.getfield 22, 3) := by decide +kernel
theorem dX1_letWait_67 : decode cX1_letWait 67 = .ok (.iconst 1, 1) := by decide +kernel
theorem dX1_letWait_68 : decode cX1_letWait 68 = .ok (.iadd, 1) := by decide +kernel
theorem dX1_letWait_69 : decode cX1_letWait 69 = .ok (.putfield 22, 3) := by decide +kernel
theorem dX1_letWait_72 : decode cX1_letWait 72 = .ok (.return_, 1) := by decide +kernel
theorem dX1_takeFirst_0 : decode cX1_takeFirst 0 = .ok (.aload_n 0, 1) := by decide +kernel
theorem dX1_takeFirst_1 : decode cX1_takeFirst 1 = .ok (.getfield 22, 3) := by decide +kernel
theorem dX1_takeFirst_4 : decode cX1_takeFirst 4 = .ok (.iconst 1, 1) := by decide +kernel
theorem dX1_takeFirst_5 : decode cX1_takeFirst 5 = .ok (.if_icmp .ge 5, 3) := by decide +kernel
theorem dX1_takeFirst_8 : decode cX1_takeFirst 8 = .ok (.iconst (-1), 1) := by decide +kernel
theorem dX1_takeFirst_9 : decode cX1_takeFirst 9 = .ok (.ireturn, 1) := by decide +kernel
theorem dX1_takeFirst_10 : decode cX1_takeFirst 10 = .ok (.aload_n 0, 1) := by decide +kernel
theorem dX1_takeFirst_11 : decode cX1_takeFirst 11 = .ok (.getfield 9, 3) := by decide +kernel
theorem dX1_takeFirst_14 : decode cX1_takeFirst 14 = .ok (.iconst 0, 1) := by decide +kernel
theorem dX1_takeFirst_15 : decode cX1_takeFirst 15 = .ok (.iaload, 1) := by decide +kernel
theorem dX1_takeFirst_16 : decode cX1_takeFirst 16 = .ok (.istore_n 1, 1) := by decide +kernel
theorem dX1_takeFirst_17 : decode cX1_takeFirst 17 = .ok (.iconst 1, 1) := by decide +kernel
theorem dX1_takeFirst_18 : decode cX1_takeFirst 18 = .ok (.istore_n 2, 1) := by decide +kernel
theorem dX1_takeFirst_19 : decode cX1_takeFirst 19 = .ok (.iload_n 2, 1) := by decide +kernel
theorem dX1_takeFirst_20 : decode cX1_takeFirst 20 = .ok (.aload_n 0, 1) := by decide +kernel
theorem dX1_takeFirst_21 : decode cX1_takeFirst 21 = .ok (.getfield 22, 3) := by decide +kernel
theorem dX1_takeFirst_24 : decode cX1_takeFirst 24 = .ok (.if_icmp .ge 29, 3) := by decide +kernel
theorem dX1_takeFirst_27 : decode cX1_takeFirst 27 = .ok (.iload_n 2, 1) := by decide +kernel
theorem dX1_takeFirst_28 : decode cX1_takeFirst 28 = .ok (.bipush 60, 2) := by decide +kernel
theorem dX1_takeFirst_30 : decode cX1_takeFirst 30 = .ok (.if_icmp .ge 23, 3) := by decide +kernel
theorem dX1_takeFirst_33 : decode cX1_takeFirst 33 = .ok (.aload_n 0, 1) := by decide +kernel
theorem dX1_takeFirst_34 : decode cX1_takeFirst 34 = .ok (.getfield 9, 3) := by decide +kernel
theorem dX1_takeFirst_37 : decode cX1_takeFirst 37 = .ok (.iload_n 2, 1) := by decide +kernel
theorem dX1_takeFirst_38 : decode cX1_takeFirst 38 = .ok (.iconst 1, 1) := by decide +kernel
theorem dX1_takeFirst_39 : decode cX1_takeFirst 39 = .ok (.isub, 1) := by decide +kernel
theorem dX1_takeFirst_40 : decode cX1_takeFirst 40 = .ok (.aload_n 0, 1) := by decide +kernel
theorem dX1_takeFirst_41 : decode cX1_takeFirst 41 = .ok (.getfield 9, 3) := by decide +kernel
theorem dX1_takeFirst_44 : decode cX1_takeFirst 44 = .ok (.iload_n 2, 1) := by decide +kernel
theorem dX1_takeFirst_45 : decode cX1_takeFirst 45 = .ok (.iaload, 1) := by decide +kernel
theorem dX1_takeFirst_46 : decode cX1_takeFirst 46 = .ok (.iastore, 1) := by decide +kernel
theorem dX1_takeFirst_47 : decode cX1_takeFirst 47 = .ok (.iinc 2 1, 3) := by decide +kernel
theorem dX1_takeFirst_50 : decode cX1_takeFirst 50 = .ok (.goto (-31), 3) := by decide +kernel
theorem dX1_takeFirst_53 : decode cX1_takeFirst 53 = .ok (.aload_n 0, 1) := by decide +kernel
theorem dX1_takeFirst_54 : decode cX1_takeFirst 54 = .ok (.dup, 1) := by decide +kernel
theorem dX1_takeFirst_55 : decode cX1_takeFirst 55 = .ok (.getfield 22, 3) := by decide +kernel
theorem dX1_takeFirst_58 : decode cX1_takeFirst 58 = .ok (.iconst 1, 1) := by decide +kernel
theorem dX1_takeFirst_59 : decode cX1_takeFirst 59 = .ok (.isub, 1) := by decide +kernel
theorem dX1_takeFirst_60 : decode cX1_takeFirst 60 = .ok (.putfield 22, 3) := by decide +kernel
theorem dX1_takeFirst_63 : decode cX1_takeFirst 63 = .ok (.iload_n 1, 1) := by decide +kernel
theorem dX1_takeFirst_64 : decode cX1_takeFirst 64 = .ok (.ifCond .lt 16, 3) := by decide +kernel
theorem dX1_takeFirst_67 : decode cX1_takeFirst 67 = .ok (.iload_n 1, 1) := by decide +kernel
theorem dX1_takeFirst_68 : decode cX1_takeFirst 68 = .ok (.bipush 60, 2) := by decide +kernel
theorem dX1_takeFirst_70 : decode cX1_takeFirst 70 = .ok (.if_icmp .ge 10, 3) := by decide +kernel
theorem dX1_takeFirst_73 : decode cX1_takeFirst 73 = .ok (.aload_n 0, 1) := by decide +kernel
theorem dX1_takeFirst_74 : decode cX1_takeFirst 74 = .ok (.getfield 15, 3) := by decide +kernel
theorem dX1_takeFirst_77 : decode cX1_takeFirst 77 = .ok (.iload_n 1, 1) := by decide +kernel
theorem dX1_takeFirst_78 : decode cX1_takeFirst 78 = .ok (.iconst 0, 1) := by decide +kernel
theorem dX1_takeFirst_79 : decode cX1_takeFirst 79 = .ok (.bastore, 1) := by decide +kernel
theorem dX1_takeFirst_80 : decode cX1_takeFirst 80 = .ok (.iload_n 1, 1) := by decide +kernel
theorem dX1_takeFirst_81 : decode cX1_takeFirst 81 = .ok (.ireturn, 1) := by decide +kernel
theorem dX1_meet_0 : decode cX1_meet 0 = .ok (.iload_n 1, 1) := by decide +kernel
theorem dX1_meet_1 : decode cX1_meet 1 = .ok (.ifCond .lt 16, 3) := by decide +kernel
theorem dX1_meet_4 : decode cX1_meet 4 = .ok (.iload_n 1, 1) := by decide +kernel
theorem dX1_meet_5 : decode cX1_meet 5 = .ok (.bipush 60, 2) := by decide +kernel
theorem dX1_meet_7 : decode cX1_meet 7 = .ok (.if_icmp .ge 10, 3) := by decide +kernel
theorem dX1_meet_10 : decode cX1_meet 10 = .ok (.aload_n 0, 1) := by decide +kernel
theorem dX1_meet_11 : decode cX1_meet 11 = .ok (.getfield 19, 3) := by decide +kernel
theorem dX1_meet_14 : decode cX1_meet 14 = .ok (.iload_n 1, 1) := by decide +kernel
theorem dX1_meet_15 : decode cX1_meet 15 = .ok (.iconst 1, 1) := by decide +kernel
theorem dX1_meet_16 : decode cX1_meet 16 = .ok (.bastore, 1) := by decide +kernel
theorem dX1_meet_17 : decode cX1_meet 17 = .ok (.return_, 1) := by decide +kernel
theorem dX1_hasMet_0 : decode cX1_hasMet 0 = .ok (.iload_n 1, 1) := by decide +kernel
theorem dX1_hasMet_1 : decode cX1_hasMet 1 = .ok (.ifCond .lt 22, 3) := by decide +kernel
theorem dX1_hasMet_4 : decode cX1_hasMet 4 = .ok (.iload_n 1, 1) := by decide +kernel
theorem dX1_hasMet_5 : decode cX1_hasMet 5 = .ok (.bipush 60, 2) := by decide +kernel
theorem dX1_hasMet_7 : decode cX1_hasMet 7 = .ok (.if_icmp .ge 16, 3) := by decide +kernel
theorem dX1_hasMet_10 : decode cX1_hasMet 10 = .ok (.aload_n 0, 1) := by decide +kernel
theorem dX1_hasMet_11 : decode cX1_hasMet 11 = .ok (.getfield 19, 3) := by decide +kernel
theorem dX1_hasMet_14 : decode cX1_hasMet 14 = .ok (.iload_n 1, 1) := by decide +kernel
theorem dX1_hasMet_15 : decode cX1_hasMet 15 = .ok (.baload, 1) := by decide +kernel
theorem dX1_hasMet_16 : decode cX1_hasMet 16 = .ok (.ifCond .eq 7, 3) := by decide +kernel
theorem dX1_hasMet_19 : decode cX1_hasMet 19 = .ok (.iconst 1, 1) := by decide +kernel
theorem dX1_hasMet_20 : decode cX1_hasMet 20 = .ok (.goto 4, 3) := by decide +kernel
theorem dX1_hasMet_23 : decode cX1_hasMet 23 = .ok (.iconst 0, 1) := by decide +kernel
theorem dX1_hasMet_24 : decode cX1_hasMet 24 = .ok (.ireturn, 1) := by decide +kernel
theorem dX2_has_0 : decode cX2_has 0 = .ok (.iload_n 1, 1) := by decide +kernel
theorem dX2_has_1 : decode cX2_has 1 = .ok (.ifCond .lt 22, 3) := by decide +kernel
theorem dX2_has_4 : decode cX2_has 4 = .ok (.iload_n 1, 1) := by decide +kernel
theorem dX2_has_5 : decode cX2_has 5 = .ok (.bipush 60, 2) := by decide +kernel
theorem dX2_has_7 : decode cX2_has 7 = .ok (.if_icmp .ge 16, 3) := by decide +kernel
theorem dX2_has_10 : decode cX2_has 10 = .ok (.aload_n 0, 1) := by decide +kernel
theorem dX2_has_11 : decode cX2_has 11 = .ok (.getfield 9, 3) := by decide +kernel
theorem dX2_has_14 : decode cX2_has 14 = .ok (.iload_n 1, 1) := by decide +kernel
theorem dX2_has_15 : decode cX2_has 15 = .ok (.baload, 1) := by decide +kernel
theorem dX2_has_16 : decode cX2_has 16 = .ok (.ifCond .eq 7, 3) := by decide +kernel
theorem dX2_has_19 : decode cX2_has 19 = .ok (.iconst 1, 1) := by decide +kernel
theorem dX2_has_20 : decode cX2_has 20 = .ok (.goto 4, 3) := by decide +kernel
theorem dX2_has_23 : decode cX2_has 23 = .ok (.iconst 0, 1) := by decide +kernel
theorem dX2_has_24 : decode cX2_has 24 = .ok (.ireturn, 1) := by decide +kernel
theorem dX2_editionOf_0 : decode cX2_editionOf 0 = .ok (.aload_n 0, 1) := by decide +kernel
theorem dX2_editionOf_1 : decode cX2_editionOf 1 = .ok (.iload_n 1, 1) := by decide +kernel
theorem dX2_editionOf_2 : decode cX2_editionOf 2 = .ok (.invokevirtual 48, 3) := by decide +kernel
theorem dX2_editionOf_5 : decode cX2_editionOf 5 = .ok (.ifCond .eq 12, 3) := by decide +kernel
theorem dX2_editionOf_8 : decode cX2_editionOf 8 = .ok (.aload_n 0, 1) := by decide +kernel
theorem dX2_editionOf_9 : decode cX2_editionOf 9 = .ok (.getfield 23, 3) := by decide +kernel
theorem dX2_editionOf_12 : decode cX2_editionOf 12 = .ok (.iload_n 1, 1) := by decide +kernel
theorem dX2_editionOf_13 : decode cX2_editionOf 13 = .ok (.iaload, 1) := by decide +kernel
theorem dX2_editionOf_14 : decode cX2_editionOf 14 = .ok (.goto 4, 3) := by decide +kernel
theorem dX2_editionOf_17 : decode cX2_editionOf 17 = .ok (.iconst (-1), 1) := by decide +kernel
theorem dX2_editionOf_18 : decode cX2_editionOf 18 = .ok (.ireturn, 1) := by decide +kernel
theorem dX2_lengthOf_0 : decode cX2_lengthOf 0 = .ok (.aload_n 0, 1) := by decide +kernel
theorem dX2_lengthOf_1 : decode cX2_lengthOf 1 = .ok (.iload_n 1, 1) := by decide +kernel
theorem dX2_lengthOf_2 : decode cX2_lengthOf 2 = .ok (.invokevirtual 48, 3) := by decide +kernel
theorem dX2_lengthOf_5 : decode cX2_lengthOf 5 = .ok (.ifCond .eq 12, 3) := by decide +kernel
theorem dX2_lengthOf_8 : decode cX2_lengthOf 8 = .ok (.aload_n 0, 1) := by decide +kernel
theorem dX2_lengthOf_9 : decode cX2_lengthOf 9 = .ok (.getfield 26, 3) := by decide +kernel
theorem dX2_lengthOf_12 : decode cX2_lengthOf 12 = .ok (.iload_n 1, 1) := by decide +kernel
theorem dX2_lengthOf_13 : decode cX2_lengthOf 13 = .ok (.iaload, 1) := by decide +kernel
theorem dX2_lengthOf_14 : decode cX2_lengthOf 14 = .ok (.goto 4, 3) := by decide +kernel
theorem dX2_lengthOf_17 : decode cX2_lengthOf 17 = .ok (.iconst 0, 1) := by decide +kernel
theorem dX2_lengthOf_18 : decode cX2_lengthOf 18 = .ok (.ireturn, 1) := by decide +kernel
theorem dX2_wordsOf_0 : decode cX2_wordsOf 0 = .ok (.aload_n 0, 1) := by decide +kernel
theorem dX2_wordsOf_1 : decode cX2_wordsOf 1 = .ok (.getfield 31, 3) := by decide +kernel
theorem dX2_wordsOf_4 : decode cX2_wordsOf 4 = .ok (.iload_n 1, 1) := by decide +kernel
theorem dX2_wordsOf_5 : decode cX2_wordsOf 5 = .ok (.ifCond .lt 13, 3) := by decide +kernel
theorem dX2_wordsOf_8 : decode cX2_wordsOf 8 = .ok (.iload_n 1, 1) := by decide +kernel
theorem dX2_wordsOf_9 : decode cX2_wordsOf 9 = .ok (.bipush 60, 2) := by decide +kernel
theorem dX2_wordsOf_11 : decode cX2_wordsOf 11 = .ok (.if_icmp .ge 7, 3) := by decide +kernel
theorem dX2_wordsOf_14 : decode cX2_wordsOf 14 = .ok (.iload_n 1, 1) := by decide +kernel
theorem dX2_wordsOf_15 : decode cX2_wordsOf 15 = .ok (.goto 4, 3) := by decide +kernel
theorem dX2_wordsOf_18 : decode cX2_wordsOf 18 = .ok (.iconst 0, 1) := by decide +kernel
theorem dX2_wordsOf_19 : decode cX2_wordsOf 19 = .ok (.aaload, 1) := by decide +kernel
theorem dX2_wordsOf_20 : decode cX2_wordsOf 20 = .ok (.areturn, 1) := by decide +kernel
theorem dX2_count_0 : decode cX2_count 0 = .ok (.iconst 0, 1) := by decide +kernel
theorem dX2_count_1 : decode cX2_count 1 = .ok (.istore_n 1, 1) := by decide +kernel
theorem dX2_count_2 : decode cX2_count 2 = .ok (.iconst 0, 1) := by decide +kernel
theorem dX2_count_3 : decode cX2_count 3 = .ok (.istore_n 2, 1) := by decide +kernel
theorem dX2_count_4 : decode cX2_count 4 = .ok (.iload_n 2, 1) := by decide +kernel
theorem dX2_count_5 : decode cX2_count 5 = .ok (.bipush 60, 2) := by decide +kernel
theorem dX2_count_7 : decode cX2_count 7 = .ok (.if_icmp .ge 21, 3) := by decide +kernel
theorem dX2_count_10 : decode cX2_count 10 = .ok (.aload_n 0, 1) := by decide +kernel
theorem dX2_count_11 : decode cX2_count 11 = .ok (.getfield 9, 3) := by decide +kernel
theorem dX2_count_14 : decode cX2_count 14 = .ok (.iload_n 2, 1) := by decide +kernel
theorem dX2_count_15 : decode cX2_count 15 = .ok (.baload, 1) := by decide +kernel
theorem dX2_count_16 : decode cX2_count 16 = .ok (.ifCond .eq 6, 3) := by decide +kernel
theorem dX2_count_19 : decode cX2_count 19 = .ok (.iinc 1 1, 3) := by decide +kernel
theorem dX2_count_22 : decode cX2_count 22 = .ok (.iinc 2 1, 3) := by decide +kernel
theorem dX2_count_25 : decode cX2_count 25 = .ok (.goto (-21), 3) := by decide +kernel
theorem dX2_count_28 : decode cX2_count 28 = .ok (.iload_n 1, 1) := by decide +kernel
theorem dX2_count_29 : decode cX2_count 29 = .ok (.ireturn, 1) := by decide +kernel
theorem dX2_isBehind_0 : decode cX2_isBehind 0 = .ok (.aload_n 0, 1) := by decide +kernel
theorem dX2_isBehind_1 : decode cX2_isBehind 1 = .ok (.iload_n 1, 1) := by decide +kernel
theorem dX2_isBehind_2 : decode cX2_isBehind 2 = .ok (.invokevirtual 48, 3) := by decide +kernel
theorem dX2_isBehind_5 : decode cX2_isBehind 5 = .ok (.ifCond .ne 5, 3) := by decide +kernel
theorem dX2_isBehind_8 : decode cX2_isBehind 8 = .ok (.iconst 1, 1) := by decide +kernel
theorem dX2_isBehind_9 : decode cX2_isBehind 9 = .ok (.ireturn, 1) := by decide +kernel
theorem dX2_isBehind_10 : decode cX2_isBehind 10 = .ok (.aload_n 0, 1) := by decide +kernel
theorem dX2_isBehind_11 : decode cX2_isBehind 11 = .ok (.getfield 15, 3) := by decide +kernel
theorem dX2_isBehind_14 : decode cX2_isBehind 14 = .ok (.iload_n 1, 1) := by decide +kernel
theorem dX2_isBehind_15 : decode cX2_isBehind 15 = .ok (.iaload, 1) := by decide +kernel
theorem dX2_isBehind_16 : decode cX2_isBehind 16 = .ok (.aload_n 0, 1) := by decide +kernel
theorem dX2_isBehind_17 : decode cX2_isBehind 17 = .ok (.getfield 40, 3) := by decide +kernel
theorem dX2_isBehind_20 : decode cX2_isBehind 20 = .ok (.iload_n 1, 1) := by decide +kernel
theorem dX2_isBehind_21 : decode cX2_isBehind 21 = .ok (.invokevirtual 52, 3) := by decide +kernel
theorem dX2_isBehind_24 : decode cX2_isBehind 24 = .ok (.if_icmp .ne 20, 3) := by decide +kernel
theorem dX2_isBehind_27 : decode cX2_isBehind 27 = .ok (.aload_n 0, 1) := by decide +kernel
theorem dX2_isBehind_28 : decode cX2_isBehind 28 = .ok (.getfield 19, 3) := by decide +kernel
theorem dX2_isBehind_31 : decode cX2_isBehind 31 = .ok (.iload_n 1, 1) := by decide +kernel
theorem dX2_isBehind_32 : decode cX2_isBehind 32 = .ok (.caload, 1) := by decide +kernel
theorem dX2_isBehind_33 : decode cX2_isBehind 33 = .ok (.aload_n 0, 1) := by decide +kernel
theorem dX2_isBehind_34 : decode cX2_isBehind 34 = .ok (.getfield 40, 3) := by decide +kernel
theorem dX2_isBehind_37 : decode cX2_isBehind 37 = .ok (.iload_n 1, 1) := by decide +kernel
theorem dX2_isBehind_38 : decode cX2_isBehind 38 = .ok (.invokevirtual 58, 3) := by decide +kernel
theorem dX2_isBehind_41 : decode cX2_isBehind 41 = .ok (.if_icmp .eq 5, 3) := by decide +kernel
theorem dX2_isBehind_44 : decode cX2_isBehind 44 = .ok (.iconst 1, 1) := by decide +kernel
theorem dX2_isBehind_45 : decode cX2_isBehind 45 = .ok (.ireturn, 1) := by decide +kernel
theorem dX2_isBehind_46 : decode cX2_isBehind 46 = .ok (.aload_n 0, 1) := by decide +kernel
theorem dX2_isBehind_47 : decode cX2_isBehind 47 = .ok (.getfield 40, 3) := by decide +kernel
theorem dX2_isBehind_50 : decode cX2_isBehind 50 = .ok (.iload_n 1, 1) := by decide +kernel
theorem dX2_isBehind_51 : decode cX2_isBehind 51 = .ok (.invokevirtual 62, 3) := by decide +kernel
theorem dX2_isBehind_54 : decode cX2_isBehind 54 = .ok (.ifCond .eq 24, 3) := by decide +kernel
theorem dX2_isBehind_57 : decode cX2_isBehind 57 = .ok (.aload_n 0, 1) := by decide +kernel
theorem dX2_isBehind_58 : decode cX2_isBehind 58 = .ok (.getfield 23, 3) := by decide +kernel
theorem dX2_isBehind_61 : decode cX2_isBehind 61 = .ok (.iload_n 1, 1) := by decide +kernel
theorem dX2_isBehind_62 : decode cX2_isBehind 62 = .ok (.iaload, 1) := by decide +kernel
theorem dX2_isBehind_63 : decode cX2_isBehind 63 = .ok (.aload_n 0, 1) := by decide +kernel
theorem dX2_isBehind_64 : decode cX2_isBehind 64 = .ok (.getfield 40, 3) := by decide +kernel
theorem dX2_isBehind_67 : decode cX2_isBehind 67 = .ok (.iload_n 1, 1) := by decide +kernel
theorem dX2_isBehind_68 : decode cX2_isBehind 68 = .ok (.invokevirtual 65, 3) := by decide +kernel
theorem dX2_isBehind_71 : decode cX2_isBehind 71 = .ok (.if_icmp .eq 7, 3) := by decide +kernel
theorem dX2_isBehind_74 : decode cX2_isBehind 74 = .ok (.iconst 1, 1) := by decide +kernel
theorem dX2_isBehind_75 : decode cX2_isBehind 75 = .ok (.goto 4, 3) := by decide +kernel
theorem dX2_isBehind_78 : decode cX2_isBehind 78 = .ok (.iconst 0, 1) := by decide +kernel
theorem dX2_isBehind_79 : decode cX2_isBehind 79 = .ok (.ireturn, 1) := by decide +kernel
theorem dX2_countStale_0 : decode cX2_countStale 0 = .ok (.iconst 0, 1) := by decide +kernel
theorem dX2_countStale_1 : decode cX2_countStale 1 = .ok (.istore_n 1, 1) := by decide +kernel
theorem dX2_countStale_2 : decode cX2_countStale 2 = .ok (.iconst 0, 1) := by decide +kernel
theorem dX2_countStale_3 : decode cX2_countStale 3 = .ok (.istore_n 2, 1) := by decide +kernel
theorem dX2_countStale_4 : decode cX2_countStale 4 = .ok (.iload_n 2, 1) := by decide +kernel
theorem dX2_countStale_5 : decode cX2_countStale 5 = .ok (.bipush 60, 2) := by decide +kernel
theorem dX2_countStale_7 : decode cX2_countStale 7 = .ok (.if_icmp .ge 64, 3) := by decide +kernel
theorem dX2_countStale_10 : decode cX2_countStale 10 = .ok (.aload_n 0, 1) := by decide +kernel
theorem dX2_countStale_11 : decode cX2_countStale 11 = .ok (.getfield 44, 3) := by decide +kernel
theorem dX2_countStale_14 : decode cX2_countStale 14 = .ok (.iload_n 2, 1) := by decide +kernel
theorem dX2_countStale_15 : decode cX2_countStale 15 = .ok (.invokevirtual 68, 3) := by decide +kernel
theorem dX2_countStale_18 : decode cX2_countStale 18 = .ok (.ifnull 7, 3) := by decide +kernel
theorem dX2_countStale_21 : decode cX2_countStale 21 = .ok (.iconst 1, 1) := by decide +kernel
theorem dX2_countStale_22 : decode cX2_countStale 22 = .ok (.goto 4, 3) := by decide +kernel
theorem dX2_countStale_25 : decode cX2_countStale 25 = .ok (.iconst 0, 1) := by decide +kernel
theorem dX2_countStale_26 : decode cX2_countStale 26 = .ok (.istore_n 3, 1) := by decide +kernel
theorem dX2_countStale_27 : decode cX2_countStale 27 = .ok (.iload_n 3, 1) := by decide +kernel
theorem dX2_countStale_28 : decode cX2_countStale 28 = .ok (.ifCond .eq 25, 3) := by decide +kernel
theorem dX2_countStale_31 : decode cX2_countStale 31 = .ok (.aload_n 0, 1) := by decide +kernel
theorem dX2_countStale_32 : decode cX2_countStale 32 = .ok (.getfield 40, 3) := by decide +kernel
theorem dX2_countStale_35 : decode cX2_countStale 35 = .ok (.iload_n 2, 1) := by decide +kernel
theorem dX2_countStale_36 : decode cX2_countStale 36 = .ok (.invokevirtual 62, 3) := by decide +kernel
theorem dX2_countStale_39 : decode cX2_countStale 39 = .ok (.ifCond .eq 26, 3) := by decide +kernel
theorem dX2_countStale_42 : decode cX2_countStale 42 = .ok (.aload_n 0, 1) := by decide +kernel
theorem dX2_countStale_43 : decode cX2_countStale 43 = .ok (.iload_n 2, 1) := by decide +kernel
theorem dX2_countStale_44 : decode cX2_countStale 44 = .ok (.invokevirtual 74, 3) := by decide +kernel
theorem dX2_countStale_47 : decode cX2_countStale 47 = .ok (.ifCond .eq 18, 3) := by decide +kernel
theorem dX2_countStale_50 : decode cX2_countStale 50 = .ok (.goto 12, 3) := by decide +kernel
theorem dX2_countStale_53 : decode cX2_countStale 53 = .ok (.aload_n 0, 1) := by decide +kernel
theorem dX2_countStale_54 : decode cX2_countStale 54 = .ok (.getfield 9, 3) := by decide +kernel
theorem dX2_countStale_57 : decode cX2_countStale 57 = .ok (.iload_n 2, 1) := by decide +kernel
theorem dX2_countStale_58 : decode cX2_countStale 58 = .ok (.baload, 1) := by decide +kernel
theorem dX2_countStale_59 : decode cX2_countStale 59 = .ok (.ifCond .eq 6, 3) := by decide +kernel
theorem dX2_countStale_62 : decode cX2_countStale 62 = .ok (.iinc 1 1, 3) := by decide +kernel
theorem dX2_countStale_65 : decode cX2_countStale 65 = .ok (.iinc 2 1, 3) := by decide +kernel
theorem dX2_countStale_68 : decode cX2_countStale 68 = .ok (.goto (-64), 3) := by decide +kernel
theorem dX2_countStale_71 : decode cX2_countStale 71 = .ok (.iload_n 1, 1) := by decide +kernel
theorem dX2_countStale_72 : decode cX2_countStale 72 = .ok (.ireturn, 1) := by decide +kernel
theorem dX2_isBelow_0 : decode cX2_isBelow 0 = .ok (.iload_n 1, 1) := by decide +kernel
theorem dX2_isBelow_1 : decode cX2_isBelow 1 = .ok (.istore_n 3, 1) := by decide +kernel
theorem dX2_isBelow_2 : decode cX2_isBelow 2 = .ok (.iconst 0, 1) := by decide +kernel
theorem dX2_isBelow_3 : decode cX2_isBelow 3 = .ok (.istore 4, 2) := by decide +kernel
theorem dX2_isBelow_5 : decode cX2_isBelow 5 = .ok (.iload 4, 2) := by decide +kernel
theorem dX2_isBelow_7 : decode cX2_isBelow 7 = .ok (.bipush 60, 2) := by decide +kernel
theorem dX2_isBelow_9 : decode cX2_isBelow 9 = .ok (.if_icmp .ge 50, 3) := by decide +kernel
theorem dX2_isBelow_12 : decode cX2_isBelow 12 = .ok (.aload_n 0, 1) := by decide +kernel
theorem dX2_isBelow_13 : decode cX2_isBelow 13 = .ok (.iload_n 3, 1) := by decide +kernel
theorem dX2_isBelow_14 : decode cX2_isBelow 14 = .ok (.invokevirtual 48, 3) := by decide +kernel
theorem dX2_isBelow_17 : decode cX2_isBelow 17 = .ok (.ifCond .eq 42, 3) := by decide +kernel
theorem dX2_isBelow_20 : decode cX2_isBelow 20 = .ok (.aload_n 0, 1) := by decide +kernel
theorem dX2_isBelow_21 : decode cX2_isBelow 21 = .ok (.getfield 15, 3) := by decide +kernel
theorem dX2_isBelow_24 : decode cX2_isBelow 24 = .ok (.iload_n 3, 1) := by decide +kernel
theorem dX2_isBelow_25 : decode cX2_isBelow 25 = .ok (.iaload, 1) := by decide +kernel
theorem dX2_isBelow_26 : decode cX2_isBelow 26 = .ok (.istore 5, 2) := by decide +kernel
theorem dX2_isBelow_28 : decode cX2_isBelow 28 = .ok (.iload 5, 2) := by decide +kernel
theorem dX2_isBelow_30 : decode cX2_isBelow 30 = .ok (.iload_n 2, 1) := by decide +kernel
theorem dX2_isBelow_31 : decode cX2_isBelow 31 = .ok (.if_icmp .ne 5, 3) := by decide +kernel
theorem dX2_isBelow_34 : decode cX2_isBelow 34 = .ok (.iconst 1, 1) := by decide +kernel
theorem dX2_isBelow_35 : decode cX2_isBelow 35 = .ok (.ireturn, 1) := by decide +kernel
theorem dX2_isBelow_36 : decode cX2_isBelow 36 = .ok (.aload_n 0, 1) := by decide +kernel
theorem dX2_isBelow_37 : decode cX2_isBelow 37 = .ok (.getfield 44, 3) := by decide +kernel
theorem dX2_isBelow_40 : decode cX2_isBelow 40 = .ok (.iload 5, 2) := by decide +kernel
theorem dX2_isBelow_42 : decode cX2_isBelow 42 = .ok (.invokevirtual 77, 3) := by decide +kernel
theorem dX2_isBelow_45 : decode cX2_isBelow 45 = .ok (.ifnull 5, 3) := by decide +kernel
theorem dX2_isBelow_48 : decode cX2_isBelow 48 = .ok (.iconst 0, 1) := by decide +kernel
theorem dX2_isBelow_49 : decode cX2_isBelow 49 = .ok (.ireturn, 1) := by decide +kernel
theorem dX2_isBelow_50 : decode cX2_isBelow 50 = .ok (.iload 5, 2) := by decide +kernel
theorem dX2_isBelow_52 : decode cX2_isBelow 52 = .ok (.istore_n 3, 1) := by decide +kernel
theorem dX2_isBelow_53 : decode cX2_isBelow 53 = .ok (.iinc 4 1, 3) := by decide +kernel
theorem dX2_isBelow_56 : decode cX2_isBelow 56 = .ok (.goto (-51), 3) := by decide +kernel
theorem dX2_isBelow_59 : decode cX2_isBelow 59 = .ok (.iconst 0, 1) := by decide +kernel
theorem dX2_isBelow_60 : decode cX2_isBelow 60 = .ok (.ireturn, 1) := by decide +kernel
theorem dX2_keepPlace_0 : decode cX2_keepPlace 0 = .ok (.iload_n 1, 1) := by decide +kernel
theorem dX2_keepPlace_1 : decode cX2_keepPlace 1 = .ok (.ifCond .lt 44, 3) := by decide +kernel
theorem dX2_keepPlace_4 : decode cX2_keepPlace 4 = .ok (.iload_n 1, 1) := by decide +kernel
theorem dX2_keepPlace_5 : decode cX2_keepPlace 5 = .ok (.bipush 60, 2) := by decide +kernel
theorem dX2_keepPlace_7 : decode cX2_keepPlace 7 = .ok (.if_icmp .ge 38, 3) := by decide +kernel
theorem dX2_keepPlace_10 : decode cX2_keepPlace 10 = .ok (.aload_n 0, 1) := by decide +kernel
theorem dX2_keepPlace_11 : decode cX2_keepPlace 11 = .ok (.getfield 9, 3) := by decide +kernel
theorem dX2_keepPlace_14 : decode cX2_keepPlace 14 = .ok (.iload_n 1, 1) := by decide +kernel
theorem dX2_keepPlace_15 : decode cX2_keepPlace 15 = .ok (.iconst 1, 1) := by decide +kernel
theorem dX2_keepPlace_16 : decode cX2_keepPlace 16 = .ok (.bastore, 1) := by decide +kernel
theorem dX2_keepPlace_17 : decode cX2_keepPlace 17 = .ok (.aload_n 0, 1) := by decide +kernel
theorem dX2_keepPlace_18 : decode cX2_keepPlace 18 = .ok (.getfield 15, 3) := by decide +kernel
theorem dX2_keepPlace_21 : decode cX2_keepPlace 21 = .ok (.iload_n 1, 1) := by decide +kernel
theorem dX2_keepPlace_22 : decode cX2_keepPlace 22 = .ok (.aload_n 0, 1) := by decide +kernel
theorem dX2_keepPlace_23 : decode cX2_keepPlace 23 = .ok (.getfield 40, 3) := by decide +kernel
theorem dX2_keepPlace_26 : decode cX2_keepPlace 26 = .ok (.iload_n 1, 1) := by decide +kernel
theorem dX2_keepPlace_27 : decode cX2_keepPlace 27 = .ok (.invokevirtual 52, 3) := by decide +kernel
theorem dX2_keepPlace_30 : decode cX2_keepPlace 30 = .ok (.iastore, 1) := by decide +kernel
theorem dX2_keepPlace_31 : decode cX2_keepPlace 31 = .ok (.aload_n 0, 1) := by decide +kernel
theorem dX2_keepPlace_32 : decode cX2_keepPlace 32 = .ok (.getfield 19, 3) := by decide +kernel
theorem dX2_keepPlace_35 : decode cX2_keepPlace 35 = .ok (.iload_n 1, 1) := by decide +kernel
theorem dX2_keepPlace_36 : decode cX2_keepPlace 36 = .ok (.aload_n 0, 1) := by decide +kernel
theorem dX2_keepPlace_37 : decode cX2_keepPlace 37 = .ok (.getfield 40, 3) := by decide +kernel
theorem dX2_keepPlace_40 : decode cX2_keepPlace 40 = .ok (.iload_n 1, 1) := by decide +kernel
theorem dX2_keepPlace_41 : decode cX2_keepPlace 41 = .ok (.invokevirtual 58, 3) := by decide +kernel
theorem dX2_keepPlace_44 : decode cX2_keepPlace 44 = .ok (.castore, 1) := by decide +kernel
theorem dX2_keepPlace_45 : decode cX2_keepPlace 45 = .ok (.return_, 1) := by decide +kernel
theorem dX2_keepEdition_0 : decode cX2_keepEdition 0 = .ok (.iload_n 1, 1) := by decide +kernel
theorem dX2_keepEdition_1 : decode cX2_keepEdition 1 = .ok (.ifCond .lt 37, 3) := by decide +kernel
theorem dX2_keepEdition_4 : decode cX2_keepEdition 4 = .ok (.iload_n 1, 1) := by decide +kernel
theorem dX2_keepEdition_5 : decode cX2_keepEdition 5 = .ok (.bipush 60, 2) := by decide +kernel
theorem dX2_keepEdition_7 : decode cX2_keepEdition 7 = .ok (.if_icmp .ge 31, 3) := by decide +kernel
theorem dX2_keepEdition_10 : decode cX2_keepEdition 10 = .ok (.aload_n 0, 1) := by decide +kernel
theorem dX2_keepEdition_11 : decode cX2_keepEdition 11 = .ok (.getfield 23, 3) := by decide +kernel
theorem dX2_keepEdition_14 : decode cX2_keepEdition 14 = .ok (.iload_n 1, 1) := by decide +kernel
theorem dX2_keepEdition_15 : decode cX2_keepEdition 15 = .ok (.aload_n 0, 1) := by decide +kernel
theorem dX2_keepEdition_16 : decode cX2_keepEdition 16 = .ok (.getfield 40, 3) := by decide +kernel
theorem dX2_keepEdition_19 : decode cX2_keepEdition 19 = .ok (.iload_n 1, 1) := by decide +kernel
theorem dX2_keepEdition_20 : decode cX2_keepEdition 20 = .ok (.invokevirtual 65, 3) := by decide +kernel
theorem dX2_keepEdition_23 : decode cX2_keepEdition 23 = .ok (.iastore, 1) := by decide +kernel
theorem dX2_keepEdition_24 : decode cX2_keepEdition 24 = .ok (.aload_n 0, 1) := by decide +kernel
theorem dX2_keepEdition_25 : decode cX2_keepEdition 25 = .ok (.getfield 26, 3) := by decide +kernel
theorem dX2_keepEdition_28 : decode cX2_keepEdition 28 = .ok (.iload_n 1, 1) := by decide +kernel
theorem dX2_keepEdition_29 : decode cX2_keepEdition 29 = .ok (.iload_n 2, 1) := by decide +kernel
theorem dX2_keepEdition_30 : decode cX2_keepEdition 30 = .ok (.iastore, 1) := by decide +kernel
theorem dX2_keepEdition_31 : decode cX2_keepEdition 31 = .ok (.aload_n 0, 1) := by decide +kernel
theorem dX2_keepEdition_32 : decode cX2_keepEdition 32 = .ok (.getfield 34, 3) := by decide +kernel
theorem dX2_keepEdition_35 : decode cX2_keepEdition 35 = .ok (.iload_n 1, 1) := by decide +kernel
theorem dX2_keepEdition_36 : decode cX2_keepEdition 36 = .ok (.iconst 1, 1) := by decide +kernel
theorem dX2_keepEdition_37 : decode cX2_keepEdition 37 = .ok (.bastore, 1) := by decide +kernel
theorem dX2_keepEdition_38 : decode cX2_keepEdition 38 = .ok (.return_, 1) := by decide +kernel
theorem dX2_takeAway_0 : decode cX2_takeAway 0 = .ok (.aload_n 0, 1) := by decide +kernel
theorem dX2_takeAway_1 : decode cX2_takeAway 1 = .ok (.getfield 44, 3) := by decide +kernel
theorem dX2_takeAway_4 : decode cX2_takeAway 4 = .ok (.iload_n 1, 1) := by decide +kernel
theorem dX2_takeAway_5 : decode cX2_takeAway 5 = .ok (.invokevirtual 77, 3) := by decide +kernel
theorem dX2_takeAway_8 : decode cX2_takeAway 8 = .ok (.ifnull 7, 3) := by decide +kernel
theorem dX2_takeAway_11 : decode cX2_takeAway 11 = .ok (.iconst 1, 1) := by decide +kernel
theorem dX2_takeAway_12 : decode cX2_takeAway 12 = .ok (.goto 4, 3) := by decide +kernel
theorem dX2_takeAway_15 : decode cX2_takeAway 15 = .ok (.iconst 0, 1) := by decide +kernel
theorem dX2_takeAway_16 : decode cX2_takeAway 16 = .ok (.istore_n 2, 1) := by decide +kernel
theorem dX2_takeAway_17 : decode cX2_takeAway 17 = .ok (.iconst 0, 1) := by decide +kernel
theorem dX2_takeAway_18 : decode cX2_takeAway 18 = .ok (.istore_n 3, 1) := by decide +kernel
theorem dX2_takeAway_19 : decode cX2_takeAway 19 = .ok (.iload_n 3, 1) := by decide +kernel
theorem dX2_takeAway_20 : decode cX2_takeAway 20 = .ok (.bipush 60, 2) := by decide +kernel
theorem dX2_takeAway_22 : decode cX2_takeAway 22 = .ok (.if_icmp .ge 38, 3) := by decide +kernel
theorem dX2_takeAway_25 : decode cX2_takeAway 25 = .ok (.aload_n 0, 1) := by decide +kernel
theorem dX2_takeAway_26 : decode cX2_takeAway 26 = .ok (.getfield 37, 3) := by decide +kernel
theorem dX2_takeAway_29 : decode cX2_takeAway 29 = .ok (.iload_n 3, 1) := by decide +kernel
theorem dX2_takeAway_30 : decode cX2_takeAway 30 = .ok (.iload_n 3, 1) := by decide +kernel
theorem dX2_takeAway_31 : decode cX2_takeAway 31 = .ok (.iload_n 1, 1) := by decide +kernel
theorem dX2_takeAway_32 : decode cX2_takeAway 32 = .ok (.if_icmp .eq 16, 3) := by decide +kernel
theorem dX2_takeAway_35 : decode cX2_takeAway 35 = .ok (.iload_n 2, 1) := by decide +kernel
theorem dX2_takeAway_36 : decode cX2_takeAway 36 = .ok (.ifCond .ne 16, 3) := by decide +kernel
theorem dX2_takeAway_39 : decode cX2_takeAway 39 = .ok (.aload_n 0, 1) := by decide +kernel
theorem dX2_takeAway_40 : decode cX2_takeAway 40 = .ok (.iload_n 3, 1) := by decide +kernel
theorem dX2_takeAway_41 : decode cX2_takeAway 41 = .ok (.iload_n 1, 1) := by decide +kernel
theorem dX2_takeAway_42 : decode cX2_takeAway 42 = .ok (.invokevirtual 80, 3) := by decide +kernel
theorem dX2_takeAway_45 : decode cX2_takeAway 45 = .ok (.ifCond .eq 7, 3) := by decide +kernel
theorem dX2_takeAway_48 : decode cX2_takeAway 48 = .ok (.iconst 1, 1) := by decide +kernel
theorem dX2_takeAway_49 : decode cX2_takeAway 49 = .ok (.goto 4, 3) := by decide +kernel
theorem dX2_takeAway_52 : decode cX2_takeAway 52 = .ok (.iconst 0, 1) := by decide +kernel
theorem dX2_takeAway_53 : decode cX2_takeAway 53 = .ok (.bastore, 1) := by decide +kernel
theorem dX2_takeAway_54 : decode cX2_takeAway 54 = .ok (.iinc 3 1, 3) := by decide +kernel
theorem dX2_takeAway_57 : decode cX2_takeAway 57 = .ok (.goto (-38), 3) := by decide +kernel
theorem dX2_takeAway_60 : decode cX2_takeAway 60 = .ok (.iconst 0, 1) := by decide +kernel
theorem dX2_takeAway_61 : decode cX2_takeAway 61 = .ok (.istore_n 3, 1) := by decide +kernel
theorem dX2_takeAway_62 : decode cX2_takeAway 62 = .ok (.iload_n 3, 1) := by decide +kernel
theorem dX2_takeAway_63 : decode cX2_takeAway 63 = .ok (.bipush 60, 2) := by decide +kernel
theorem dX2_takeAway_65 : decode cX2_takeAway 65 = .ok (.if_icmp .ge 32, 3) := by decide +kernel
theorem dX2_takeAway_68 : decode cX2_takeAway 68 = .ok (.aload_n 0, 1) := by decide +kernel
theorem dX2_takeAway_69 : decode cX2_takeAway 69 = .ok (.getfield 37, 3) := by decide +kernel
theorem dX2_takeAway_72 : decode cX2_takeAway 72 = .ok (.iload_n 3, 1) := by decide +kernel
theorem dX2_takeAway_73 : decode cX2_takeAway 73 = .ok (.baload, 1) := by decide +kernel
theorem dX2_takeAway_74 : decode cX2_takeAway 74 = .ok (.ifCond .eq 17, 3) := by decide +kernel
theorem dX2_takeAway_77 : decode cX2_takeAway 77 = .ok (.aload_n 0, 1) := by decide +kernel
theorem dX2_takeAway_78 : decode cX2_takeAway 78 = .ok (.getfield 9, 3) := by decide +kernel
theorem dX2_takeAway_81 : decode cX2_takeAway 81 = .ok (.iload_n 3, 1) := by decide +kernel
theorem dX2_takeAway_82 : decode cX2_takeAway 82 = .ok (.iconst 0, 1) := by decide +kernel
theorem dX2_takeAway_83 : decode cX2_takeAway 83 = .ok (.bastore, 1) := by decide +kernel
theorem dX2_takeAway_84 : decode cX2_takeAway 84 = .ok (.aload_n 0, 1) := by decide +kernel
theorem dX2_takeAway_85 : decode cX2_takeAway 85 = .ok (.getfield 34, 3) := by decide +kernel
theorem dX2_takeAway_88 : decode cX2_takeAway 88 = .ok (.iload_n 3, 1) := by decide +kernel
theorem dX2_takeAway_89 : decode cX2_takeAway 89 = .ok (.iconst 0, 1) := by decide +kernel
theorem dX2_takeAway_90 : decode cX2_takeAway 90 = .ok (.bastore, 1) := by decide +kernel
theorem dX2_takeAway_91 : decode cX2_takeAway 91 = .ok (.iinc 3 1, 3) := by decide +kernel
theorem dX2_takeAway_94 : decode cX2_takeAway 94 = .ok (.goto (-32), 3) := by decide +kernel
theorem dX2_takeAway_97 : decode cX2_takeAway 97 = .ok (.return_, 1) := by decide +kernel
theorem dX2_hasGotEdition_0 : decode cX2_hasGotEdition 0 = .ok (.iload_n 1, 1) := by decide +kernel
theorem dX2_hasGotEdition_1 : decode cX2_hasGotEdition 1 = .ok (.ifCond .lt 22, 3) := by decide +kernel
theorem dX2_hasGotEdition_4 : decode cX2_hasGotEdition 4 = .ok (.iload_n 1, 1) := by decide +kernel
theorem dX2_hasGotEdition_5 : decode cX2_hasGotEdition 5 = .ok (.bipush 60, 2) := by decide +kernel
theorem dX2_hasGotEdition_7 : decode cX2_hasGotEdition 7 = .ok (.if_icmp .ge 16, 3) := by decide +kernel
theorem dX2_hasGotEdition_10 : decode cX2_hasGotEdition 10 = .ok (.aload_n 0, 1) := by decide +kernel
theorem dX2_hasGotEdition_11 : decode cX2_hasGotEdition 11 = .ok (.getfield 34, 3) := by decide +kernel
theorem dX2_hasGotEdition_14 : decode cX2_hasGotEdition 14 = .ok (.iload_n 1, 1) := by decide +kernel
theorem dX2_hasGotEdition_15 : decode cX2_hasGotEdition 15 = .ok (.baload, 1) := by decide +kernel
theorem dX2_hasGotEdition_16 : decode cX2_hasGotEdition 16 = .ok (.ifCond .eq 7, 3) := by decide +kernel
theorem dX2_hasGotEdition_19 : decode cX2_hasGotEdition 19 = .ok (.iconst 1, 1) := by decide +kernel
theorem dX2_hasGotEdition_20 : decode cX2_hasGotEdition 20 = .ok (.goto 4, 3) := by decide +kernel
theorem dX2_hasGotEdition_23 : decode cX2_hasGotEdition 23 = .ok (.iconst 0, 1) := by decide +kernel
theorem dX2_hasGotEdition_24 : decode cX2_hasGotEdition 24 = .ok (.ireturn, 1) := by decide +kernel
theorem dX2_endWork_0 : decode cX2_endWork 0 = .ok (.iconst 0, 1) := by decide +kernel
theorem dX2_endWork_1 : decode cX2_endWork 1 = .ok (.istore_n 1, 1) := by decide +kernel
theorem dX2_endWork_2 : decode cX2_endWork 2 = .ok (.iload_n 1, 1) := by decide +kernel
theorem dX2_endWork_3 : decode cX2_endWork 3 = .ok (.bipush 60, 2) := by decide +kernel
theorem dX2_endWork_5 : decode cX2_endWork 5 = .ok (.if_icmp .ge 16, 3) := by decide +kernel
theorem dX2_endWork_8 : decode cX2_endWork 8 = .ok (.aload_n 0, 1) := by decide +kernel
theorem dX2_endWork_9 : decode cX2_endWork 9 = .ok (.getfield 34, 3) := by decide +kernel
theorem dX2_endWork_12 : decode cX2_endWork 12 = .ok (.iload_n 1, 1) := by decide +kernel
theorem dX2_endWork_13 : decode cX2_endWork 13 = .ok (.iconst 0, 1) := by decide +kernel
theorem dX2_endWork_14 : decode cX2_endWork 14 = .ok (.bastore, 1) := by decide +kernel
theorem dX2_endWork_15 : decode cX2_endWork 15 = .ok (.iinc 1 1, 3) := by decide +kernel
theorem dX2_endWork_18 : decode cX2_endWork 18 = .ok (.goto (-16), 3) := by decide +kernel
theorem dX2_endWork_21 : decode cX2_endWork 21 = .ok (.return_, 1) := by decide +kernel
theorem dX3_count_0 : decode cX3_count 0 = .ok (.aload_n 0, 1) := by decide +kernel
theorem dX3_count_1 : decode cX3_count 1 = .ok (.getfield 21, 3) := by decide +kernel
theorem dX3_count_4 : decode cX3_count 4 = .ok (.ireturn, 1) := by decide +kernel
theorem dX3_countBuried_0 : decode cX3_countBuried 0 = .ok (.iconst 0, 1) := by decide +kernel
theorem dX3_countBuried_1 : decode cX3_countBuried 1 = .ok (.istore_n 1, 1) := by decide +kernel
theorem dX3_countBuried_2 : decode cX3_countBuried 2 = .ok (.iconst 0, 1) := by decide +kernel
theorem dX3_countBuried_3 : decode cX3_countBuried 3 = .ok (.istore_n 2, 1) := by decide +kernel
theorem dX3_countBuried_4 : decode cX3_countBuried 4 = .ok (.iload_n 2, 1) := by decide +kernel
theorem dX3_countBuried_5 : decode cX3_countBuried 5 = .ok (.aload_n 0, 1) := by decide +kernel
theorem dX3_countBuried_6 : decode cX3_countBuried 6 = .ok (.getfield 21, 3) := by decide +kernel
theorem dX3_countBuried_9 : decode cX3_countBuried 9 = .ok (.if_icmp .ge 23, 3) := by decide +kernel
theorem dX3_countBuried_12 : decode cX3_countBuried 12 = .ok (.iload_n 2, 1) := by decide +kernel
theorem dX3_countBuried_13 : decode cX3_countBuried 13 = .ok (.iconst 3, 1) := by decide +kernel
theorem dX3_countBuried_14 : decode cX3_countBuried 14 = .ok (.if_icmp .gt 18, 3) := by decide +kernel
theorem dX3_countBuried_17 : decode cX3_countBuried 17 = .ok (.iload_n 1, 1) := by decide +kernel
theorem dX3_countBuried_18 : decode cX3_countBuried 18 = .ok (.aload_n 0, 1) := by decide +kernel
theorem dX3_countBuried_19 : decode cX3_countBuried 19 = .ok (.getfield 18, 3) := by decide +kernel
theorem dX3_countBuried_22 : decode cX3_countBuried 22 = .ok (.iload_n 2, 1) := by decide +kernel
theorem dX3_countBuried_23 : decode cX3_countBuried 23 = .ok (.iaload, 1) := by decide +kernel
theorem dX3_countBuried_24 : decode cX3_countBuried 24 = .ok (.iadd, 1) := by decide +kernel
theorem dX3_countBuried_25 : decode cX3_countBuried 25 = .ok (.istore_n 1, 1) := by decide +kernel
theorem dX3_countBuried_26 : decode cX3_countBuried 26 = .ok (.iinc 2 1, 3) := by decide +kernel
theorem dX3_countBuried_29 : decode cX3_countBuried 29 = .ok (.goto (-25), 3) := by decide +kernel
theorem dX3_countBuried_32 : decode cX3_countBuried 32 = .ok (.iload_n 1, 1) := by decide +kernel
theorem dX3_countBuried_33 : decode cX3_countBuried 33 = .ok (.ireturn, 1) := by decide +kernel
theorem dX3_endWork_0 : decode cX3_endWork 0 = .ok (.iconst 0, 1) := by decide +kernel
theorem dX3_endWork_1 : decode cX3_endWork 1 = .ok (.istore_n 2, 1) := by decide +kernel
theorem dX3_endWork_2 : decode cX3_endWork 2 = .ok (.iload_n 2, 1) := by decide +kernel
theorem dX3_endWork_3 : decode cX3_endWork 3 = .ok (.bipush 60, 2) := by decide +kernel
theorem dX3_endWork_5 : decode cX3_endWork 5 = .ok (.if_icmp .ge 30, 3) := by decide +kernel
theorem dX3_endWork_8 : decode cX3_endWork 8 = .ok (.aload_n 1, 1) := by decide +kernel
theorem dX3_endWork_9 : decode cX3_endWork 9 = .ok (.iload_n 2, 1) := by decide +kernel
theorem dX3_endWork_10 : decode cX3_endWork 10 = .ok (.invokevirtual 25, 3) := by decide +kernel
theorem dX3_endWork_13 : decode cX3_endWork 13 = .ok (.ifCond .ne 11, 3) := by decide +kernel
theorem dX3_endWork_16 : decode cX3_endWork 16 = .ok (.aload_n 1, 1) := by decide +kernel
theorem dX3_endWork_17 : decode cX3_endWork 17 = .ok (.iload_n 2, 1) := by decide +kernel
theorem dX3_endWork_18 : decode cX3_endWork 18 = .ok (.invokevirtual 31, 3) := by decide +kernel
theorem dX3_endWork_21 : decode cX3_endWork 21 = .ok (.ifCond .ne 8, 3) := by decide +kernel
theorem dX3_endWork_24 : decode cX3_endWork 24 = .ok (.aload_n 0, 1) := by decide +kernel
theorem dX3_endWork_25 : decode cX3_endWork 25 = .ok (.iload_n 2, 1) := by decide +kernel
theorem dX3_endWork_26 : decode cX3_endWork 26 = .ok (.invokevirtual 34, 3) := by decide +kernel
theorem dX3_endWork_29 : decode cX3_endWork 29 = .ok (.iinc 2 1, 3) := by decide +kernel
theorem dX3_endWork_32 : decode cX3_endWork 32 = .ok (.goto (-30), 3) := by decide +kernel
theorem dX3_endWork_35 : decode cX3_endWork 35 = .ok (.aload_n 0, 1) := by decide +kernel
theorem dX3_endWork_36 : decode cX3_endWork 36 = .ok (.aload_n 1, 1) := by decide +kernel
theorem dX3_endWork_37 : decode cX3_endWork 37 = .ok (.invokevirtual 38, 3) := by decide +kernel
theorem dX3_endWork_40 : decode cX3_endWork 40 = .ok (.iconst 3, 1) := by decide +kernel
theorem dX3_endWork_41 : decode cX3_endWork 41 = .ok (.istore_n 2, 1) := by decide +kernel
theorem dX3_endWork_42 : decode cX3_endWork 42 = .ok (.iload_n 2, 1) := by decide +kernel
theorem dX3_endWork_43 : decode cX3_endWork 43 = .ok (.ifCond .lt 31, 3) := by decide +kernel
theorem dX3_endWork_46 : decode cX3_endWork 46 = .ok (.iload_n 2, 1) := by decide +kernel
theorem dX3_endWork_47 : decode cX3_endWork 47 = .ok (.aload_n 0, 1) := by decide +kernel
theorem dX3_endWork_48 : decode cX3_endWork 48 = .ok (.getfield 21, 3) := by decide +kernel
theorem dX3_endWork_51 : decode cX3_endWork 51 = .ok (.if_icmp .ge 17, 3) := by decide +kernel
theorem dX3_endWork_54 : decode cX3_endWork 54 = .ok (.aload_n 0, 1) := by decide +kernel
theorem dX3_endWork_55 : decode cX3_endWork 55 = .ok (.getfield 15, 3) := by decide +kernel
theorem dX3_endWork_58 : decode cX3_endWork 58 = .ok (.iload_n 2, 1) := by decide +kernel
theorem dX3_endWork_59 : decode cX3_endWork 59 = .ok (.iaload, 1) := by decide +kernel
theorem dX3_endWork_60 : decode cX3_endWork 60 = .ok (.ifCond .ne 8, 3) := by decide +kernel
theorem dX3_endWork_63 : decode cX3_endWork 63 = .ok (.aload_n 0, 1) := by decide +kernel
theorem dX3_endWork_64 : decode cX3_endWork 64 = .ok (.iload_n 2, 1) := by decide +kernel
theorem dX3_endWork_65 : decode cX3_endWork 65 = .ok (.invokevirtual 42, 3) := by decide +kernel
theorem dX3_endWork_68 : decode cX3_endWork 68 = .ok (.iinc 2 (-1), 3) := by decide +kernel
theorem dX3_endWork_71 : decode cX3_endWork 71 = .ok (.goto (-29), 3) := by decide +kernel
theorem dX3_endWork_74 : decode cX3_endWork 74 = .ok (.iconst 0, 1) := by decide +kernel
theorem dX3_endWork_75 : decode cX3_endWork 75 = .ok (.istore_n 2, 1) := by decide +kernel
theorem dX3_endWork_76 : decode cX3_endWork 76 = .ok (.iload_n 2, 1) := by decide +kernel
theorem dX3_endWork_77 : decode cX3_endWork 77 = .ok (.iconst 3, 1) := by decide +kernel
theorem dX3_endWork_78 : decode cX3_endWork 78 = .ok (.if_icmp .ge 25, 3) := by decide +kernel
theorem dX3_endWork_81 : decode cX3_endWork 81 = .ok (.aload_n 0, 1) := by decide +kernel
theorem dX3_endWork_82 : decode cX3_endWork 82 = .ok (.getfield 21, 3) := by decide +kernel
theorem dX3_endWork_85 : decode cX3_endWork 85 = .ok (.iconst 3, 1) := by decide +kernel
theorem dX3_endWork_86 : decode cX3_endWork 86 = .ok (.if_icmp .le 17, 3) := by decide +kernel
theorem dX3_endWork_89 : decode cX3_endWork 89 = .ok (.aload_n 0, 1) := by decide +kernel
theorem dX3_endWork_90 : decode cX3_endWork 90 = .ok (.aload_n 0, 1) := by decide +kernel
theorem dX3_endWork_91 : decode cX3_endWork 91 = .ok (.invokevirtual 45, 3) := by decide +kernel
theorem dX3_endWork_94 : decode cX3_endWork 94 = .ok (.invokevirtual 49, 3) := by decide +kernel
theorem dX3_endWork_97 : decode cX3_endWork 97 = .ok (.iinc 2 1, 3) := by decide +kernel
theorem dX3_endWork_100 : decode cX3_endWork 100 = .ok (.goto (-24), 3) := by decide +kernel
theorem dX3_endWork_103 : decode cX3_endWork 103 = .ok (.return_, 1) := by decide +kernel
theorem dX3_bury_0 : decode cX3_bury 0 = .ok (.aload_n 0, 1) := by decide +kernel
theorem dX3_bury_1 : decode cX3_bury 1 = .ok (.getfield 9, 3) := by decide +kernel
theorem dX3_bury_4 : decode cX3_bury 4 = .ok (.iload_n 1, 1) := by decide +kernel
theorem dX3_bury_5 : decode cX3_bury 5 = .ok (.iaload, 1) := by decide +kernel
theorem dX3_bury_6 : decode cX3_bury 6 = .ok (.istore_n 2, 1) := by decide +kernel
theorem dX3_bury_7 : decode cX3_bury 7 = .ok (.iload_n 2, 1) := by decide +kernel
theorem dX3_bury_8 : decode cX3_bury 8 = .ok (.ifCond .lt 28, 3) := by decide +kernel
theorem dX3_bury_11 : decode cX3_bury 11 = .ok (.iload_n 2, 1) := by decide +kernel
theorem dX3_bury_12 : decode cX3_bury 12 = .ok (.iconst 3, 1) := by decide +kernel
theorem dX3_bury_13 : decode cX3_bury 13 = .ok (.if_icmp .gt 23, 3) := by decide +kernel
theorem dX3_bury_16 : decode cX3_bury 16 = .ok (.aload_n 0, 1) := by decide +kernel
theorem dX3_bury_17 : decode cX3_bury 17 = .ok (.getfield 15, 3) := by decide +kernel
theorem dX3_bury_20 : decode cX3_bury 20 = .ok (.iload_n 2, 1) := by decide +kernel
theorem dX3_bury_21 : decode cX3_bury 21 = .ok (.dup2, 1) := by decide +kernel
theorem dX3_bury_22 : decode cX3_bury 22 = .ok (.iaload, 1) := by decide +kernel
theorem dX3_bury_23 : decode cX3_bury 23 = .ok (.iconst 1, 1) := by decide +kernel
theorem dX3_bury_24 : decode cX3_bury 24 = .ok (.isub, 1) := by decide +kernel
theorem dX3_bury_25 : decode cX3_bury 25 = .ok (.iastore, 1) := by decide +kernel
theorem dX3_bury_26 : decode cX3_bury 26 = .ok (.aload_n 0, 1) := by decide +kernel
theorem dX3_bury_27 : decode cX3_bury 27 = .ok (.getfield 18, 3) := by decide +kernel
theorem dX3_bury_30 : decode cX3_bury 30 = .ok (.iload_n 2, 1) := by decide +kernel
theorem dX3_bury_31 : decode cX3_bury 31 = .ok (.dup2, 1) := by decide +kernel
theorem dX3_bury_32 : decode cX3_bury 32 = .ok (.iaload, 1) := by decide +kernel
theorem dX3_bury_33 : decode cX3_bury 33 = .ok (.iconst 1, 1) := by decide +kernel
theorem dX3_bury_34 : decode cX3_bury 34 = .ok (.iadd, 1) := by decide +kernel
theorem dX3_bury_35 : decode cX3_bury 35 = .ok (.iastore, 1) := by decide +kernel
theorem dX3_bury_36 : decode cX3_bury 36 = .ok (.aload_n 0, 1) := by decide +kernel
theorem dX3_bury_37 : decode cX3_bury 37 = .ok (.getfield 9, 3) := by decide +kernel
theorem dX3_bury_40 : decode cX3_bury 40 = .ok (.iload_n 1, 1) := by decide +kernel
theorem dX3_bury_41 : decode cX3_bury 41 = .ok (.iconst (-1), 1) := by decide +kernel
theorem dX3_bury_42 : decode cX3_bury 42 = .ok (.iastore, 1) := by decide +kernel
theorem dX3_bury_43 : decode cX3_bury 43 = .ok (.return_, 1) := by decide +kernel
theorem dX3_addSegment_0 : decode cX3_addSegment 0 = .ok (.aload_n 0, 1) := by decide +kernel
theorem dX3_addSegment_1 : decode cX3_addSegment 1 = .ok (.getfield 21, 3) := by decide +kernel
theorem dX3_addSegment_4 : decode cX3_addSegment 4 = .ok (.ifCond .lt 11, 3) := by decide +kernel
theorem dX3_addSegment_7 : decode cX3_addSegment 7 = .ok (.aload_n 0, 1) := by decide +kernel
theorem dX3_addSegment_8 : decode cX3_addSegment 8 = .ok (.getfield 21, 3) := by decide +kernel
theorem dX3_addSegment_11 : decode cX3_addSegment 11 = .ok (.iconst 3, 1) := by decide +kernel
theorem dX3_addSegment_12 : decode cX3_addSegment 12 = .ok (.if_icmp .le 4, 3) := by decide +kernel
theorem dX3_addSegment_15 : decode cX3_addSegment 15 = .ok (.return_, 1) := by decide +kernel
theorem dX3_addSegment_16 : decode cX3_addSegment 16 = .ok (.aload_n 0, 1) := by decide +kernel
theorem dX3_addSegment_17 : decode cX3_addSegment 17 = .ok (.getfield 15, 3) := by decide +kernel
theorem dX3_addSegment_20 : decode cX3_addSegment 20 = .ok (.aload_n 0, 1) := by decide +kernel
theorem dX3_addSegment_21 : decode cX3_addSegment 21 = .ok (.getfield 21, 3) := by decide +kernel
theorem dX3_addSegment_24 : decode cX3_addSegment 24 = .ok (.iconst 0, 1) := by decide +kernel
theorem dX3_addSegment_25 : decode cX3_addSegment 25 = .ok (.iastore, 1) := by decide +kernel
theorem dX3_addSegment_26 : decode cX3_addSegment 26 = .ok (.aload_n 0, 1) := by decide +kernel
theorem dX3_addSegment_27 : decode cX3_addSegment 27 = .ok (.getfield 18, 3) := by decide +kernel
theorem dX3_addSegment_30 : decode cX3_addSegment 30 = .ok (.aload_n 0, 1) := by decide +kernel
theorem dX3_addSegment_31 : decode cX3_addSegment 31 = .ok (.getfield 21, 3) := by decide +kernel
theorem dX3_addSegment_34 : decode cX3_addSegment 34 = .ok (.iconst 0, 1) := by decide +kernel
theorem dX3_addSegment_35 : decode cX3_addSegment 35 = .ok (.iastore, 1) := by decide +kernel
theorem dX3_addSegment_36 : decode cX3_addSegment 36 = .ok (.iconst 0, 1) := by decide +kernel
theorem dX3_addSegment_37 : decode cX3_addSegment 37 = .ok (.istore_n 2, 1) := by decide +kernel
theorem dX3_addSegment_38 : decode cX3_addSegment 38 = .ok (.iload_n 2, 1) := by decide +kernel
theorem dX3_addSegment_39 : decode cX3_addSegment 39 = .ok (.bipush 60, 2) := by decide +kernel
theorem dX3_addSegment_41 : decode cX3_addSegment 41 = .ok (.if_icmp .ge 40, 3) := by decide +kernel
theorem dX3_addSegment_44 : decode cX3_addSegment 44 = .ok (.aload_n 1, 1) := by decide +kernel
theorem dX3_addSegment_45 : decode cX3_addSegment 45 = .ok (.iload_n 2, 1) := by decide +kernel
theorem dX3_addSegment_46 : decode cX3_addSegment 46 = .ok (.invokevirtual 25, 3) := by decide +kernel
theorem dX3_addSegment_49 : decode cX3_addSegment 49 = .ok (.ifCond .eq 26, 3) := by decide +kernel
theorem dX3_addSegment_52 : decode cX3_addSegment 52 = .ok (.aload_n 0, 1) := by decide +kernel
theorem dX3_addSegment_53 : decode cX3_addSegment 53 = .ok (.getfield 9, 3) := by decide +kernel
theorem dX3_addSegment_56 : decode cX3_addSegment 56 = .ok (.iload_n 2, 1) := by decide +kernel
theorem dX3_addSegment_57 : decode cX3_addSegment 57 = .ok (.aload_n 0, 1) := by decide +kernel
theorem dX3_addSegment_58 : decode cX3_addSegment 58 = .ok (.getfield 21, 3) := by decide +kernel
theorem dX3_addSegment_61 : decode cX3_addSegment 61 = .ok (.iastore, 1) := by decide +kernel
theorem dX3_addSegment_62 : decode cX3_addSegment 62 = .ok (.aload_n 0, 1) := by decide +kernel
theorem dX3_addSegment_63 : decode cX3_addSegment 63 = .ok (.getfield 15, 3) := by decide +kernel
theorem dX3_addSegment_66 : decode cX3_addSegment 66 = .ok (.aload_n 0, 1) := by decide +kernel
theorem dX3_addSegment_67 : decode cX3_addSegment 67 = .ok (.getfield 21, 3) := by decide +kernel
theorem dX3_addSegment_70 : decode cX3_addSegment 70 = .ok (.dup2, 1) := by decide +kernel
theorem dX3_addSegment_71 : decode cX3_addSegment 71 = .ok (.iaload, 1) := by decide +kernel
theorem dX3_addSegment_72 : decode cX3_addSegment 72 = .ok (.iconst 1, 1) := by decide +kernel
theorem dX3_addSegment_73 : decode cX3_addSegment 73 = .ok (.iadd, 1) := by decide +kernel
theorem dX3_addSegment_74 : decode cX3_addSegment 74 = .ok (.iastore, 1) := by decide +kernel
theorem dX3_addSegment_75 : decode cX3_addSegment 75 = .ok (.iinc 2 1, 3) := by decide +kernel
theorem dX3_addSegment_78 : decode cX3_addSegment 78 = .ok (.goto (-40), 3) := by decide +kernel
theorem dX3_addSegment_81 : decode cX3_addSegment 81 = .ok (.aload_n 0, 1) := by decide +kernel
theorem dX3_addSegment_82 : decode cX3_addSegment 82 = .ok (.dup, 1) := by decide +kernel
theorem dX3_addSegment_83 : decode cX3_addSegment 83 = .ok (.getfield 21, 3) := by decide +kernel
theorem dX3_addSegment_86 : decode cX3_addSegment 86 = .ok (.iconst 1, 1) := by decide +kernel
theorem dX3_addSegment_87 : decode cX3_addSegment 87 = .ok (.iadd, 1) := by decide +kernel
theorem dX3_addSegment_88 : decode cX3_addSegment 88 = .ok (.putfield 21, 3) := by decide +kernel
theorem dX3_addSegment_91 : decode cX3_addSegment 91 = .ok (.return_, 1) := by decide +kernel
theorem dX3_close_0 : decode cX3_close 0 = .ok (.iload_n 1, 1) := by decide +kernel
theorem dX3_close_1 : decode cX3_close 1 = .ok (.istore_n 2, 1) := by decide +kernel
theorem dX3_close_2 : decode cX3_close 2 = .ok (.iload_n 2, 1) := by decide +kernel
theorem dX3_close_3 : decode cX3_close 3 = .ok (.iconst 1, 1) := by decide +kernel
theorem dX3_close_4 : decode cX3_close 4 = .ok (.iadd, 1) := by decide +kernel
theorem dX3_close_5 : decode cX3_close 5 = .ok (.aload_n 0, 1) := by decide +kernel
theorem dX3_close_6 : decode cX3_close 6 = .ok (.getfield 21, 3) := by decide +kernel
theorem dX3_close_9 : decode cX3_close 9 = .ok (.if_icmp .ge 42, 3) := by decide +kernel
theorem dX3_close_12 : decode cX3_close 12 = .ok (.iload_n 2, 1) := by decide +kernel
theorem dX3_close_13 : decode cX3_close 13 = .ok (.iconst 3, 1) := by decide +kernel
theorem dX3_close_14 : decode cX3_close 14 = .ok (.if_icmp .ge 37, 3) := by decide +kernel
theorem dX3_close_17 : decode cX3_close 17 = .ok (.aload_n 0, 1) := by decide +kernel
theorem dX3_close_18 : decode cX3_close 18 = .ok (.getfield 15, 3) := by decide +kernel
theorem dX3_close_21 : decode cX3_close 21 = .ok (.iload_n 2, 1) := by decide +kernel
theorem dX3_close_22 : decode cX3_close 22 = .ok (.aload_n 0, 1) := by decide +kernel
theorem dX3_close_23 : decode cX3_close 23 = .ok (.getfield 15, 3) := by decide +kernel
theorem dX3_close_26 : decode cX3_close 26 = .ok (.iload_n 2, 1) := by decide +kernel
theorem dX3_close_27 : decode cX3_close 27 = .ok (.iconst 1, 1) := by decide +kernel
theorem dX3_close_28 : decode cX3_close 28 = .ok (.iadd, 1) := by decide +kernel
theorem dX3_close_29 : decode cX3_close 29 = .ok (.iaload, 1) := by decide +kernel
theorem dX3_close_30 : decode cX3_close 30 = .ok (.iastore, 1) := by decide +kernel
theorem dX3_close_31 : decode cX3_close 31 = .ok (.aload_n 0, 1) := by decide +kernel
theorem dX3_close_32 : decode cX3_close 32 = .ok (.getfield 18, 3) := by decide +kernel
theorem dX3_close_35 : decode cX3_close 35 = .ok (.iload_n 2, 1) := by decide +kernel
theorem dX3_close_36 : decode cX3_close 36 = .ok (.aload_n 0, 1) := by decide +kernel
theorem dX3_close_37 : decode cX3_close 37 = .ok (.getfield 18, 3) := by decide +kernel
theorem dX3_close_40 : decode cX3_close 40 = .ok (.iload_n 2, 1) := by decide +kernel
theorem dX3_close_41 : decode cX3_close 41 = .ok (.iconst 1, 1) := by decide +kernel
theorem dX3_close_42 : decode cX3_close 42 = .ok (.iadd, 1) := by decide +kernel
theorem dX3_close_43 : decode cX3_close 43 = .ok (.iaload, 1) := by decide +kernel
theorem dX3_close_44 : decode cX3_close 44 = .ok (.iastore, 1) := by decide +kernel
theorem dX3_close_45 : decode cX3_close 45 = .ok (.iinc 2 1, 3) := by decide +kernel
theorem dX3_close_48 : decode cX3_close 48 = .ok (.goto (-46), 3) := by decide +kernel
theorem dX3_close_51 : decode cX3_close 51 = .ok (.iconst 0, 1) := by decide +kernel
theorem dX3_close_52 : decode cX3_close 52 = .ok (.istore_n 2, 1) := by decide +kernel
theorem dX3_close_53 : decode cX3_close 53 = .ok (.iload_n 2, 1) := by decide +kernel
theorem dX3_close_54 : decode cX3_close 54 = .ok (.bipush 60, 2) := by decide +kernel
theorem dX3_close_56 : decode cX3_close 56 = .ok (.if_icmp .ge 29, 3) := by decide +kernel
theorem dX3_close_59 : decode cX3_close 59 = .ok (.aload_n 0, 1) := by decide +kernel
theorem dX3_close_60 : decode cX3_close 60 = .ok (.getfield 9, 3) := by decide +kernel
theorem dX3_close_63 : decode cX3_close 63 = .ok (.iload_n 2, 1) := by decide +kernel
theorem dX3_close_64 : decode cX3_close 64 = .ok (.iaload, 1) := by decide +kernel
theorem dX3_close_65 : decode cX3_close 65 = .ok (.iload_n 1, 1) := by decide +kernel
theorem dX3_close_66 : decode cX3_close 66 = .ok (.if_icmp .le 13, 3) := by decide +kernel
theorem dX3_close_69 : decode cX3_close 69 = .ok (.aload_n 0, 1) := by decide +kernel
theorem dX3_close_70 : decode cX3_close 70 = .ok (.getfield 9, 3) := by decide +kernel
theorem dX3_close_73 : decode cX3_close 73 = .ok (.iload_n 2, 1) := by decide +kernel
theorem dX3_close_74 : decode cX3_close 74 = .ok (.dup2, 1) := by decide +kernel
theorem dX3_close_75 : decode cX3_close 75 = .ok (.iaload, 1) := by decide +kernel
theorem dX3_close_76 : decode cX3_close 76 = .ok (.iconst 1, 1) := by decide +kernel
theorem dX3_close_77 : decode cX3_close 77 = .ok (.isub, 1) := by decide +kernel
theorem dX3_close_78 : decode cX3_close 78 = .ok (.iastore, 1) := by decide +kernel
theorem dX3_close_79 : decode cX3_close 79 = .ok (.iinc 2 1, 3) := by decide +kernel
theorem dX3_close_82 : decode cX3_close 82 = .ok (.goto (-29), 3) := by decide +kernel
theorem dX3_close_85 : decode cX3_close 85 = .ok (.aload_n 0, 1) := by decide +kernel
theorem dX3_close_86 : decode cX3_close 86 = .ok (.dup, 1) := by decide +kernel
theorem dX3_close_87 : decode cX3_close 87 = .ok (.getfield 21, 3) := by decide +kernel
theorem dX3_close_90 : decode cX3_close 90 = .ok (.iconst 1, 1) := by decide +kernel
theorem dX3_close_91 : decode cX3_close 91 = .ok (.isub, 1) := by decide +kernel
theorem dX3_close_92 : decode cX3_close 92 = .ok (.putfield 21, 3) := by decide +kernel
theorem dX3_close_95 : decode cX3_close 95 = .ok (.return_, 1) := by decide +kernel
theorem dX3_smallestPair_0 : decode cX3_smallestPair 0 = .ok (.iconst (-1), 1) := by decide +kernel
theorem dX3_smallestPair_1 : decode cX3_smallestPair 1 = .ok (.istore_n 1, 1) := by decide +kernel
theorem dX3_smallestPair_2 : decode cX3_smallestPair 2 = .ok (.iconst 0, 1) := by decide +kernel
theorem dX3_smallestPair_3 : decode cX3_smallestPair 3 = .ok (.istore_n 2, 1) := by decide +kernel
theorem dX3_smallestPair_4 : decode cX3_smallestPair 4 = .ok (.iconst 0, 1) := by decide +kernel
theorem dX3_smallestPair_5 : decode cX3_smallestPair 5 = .ok (.istore_n 3, 1) := by decide +kernel
theorem dX3_smallestPair_6 : decode cX3_smallestPair 6 = .ok (.iload_n 3, 1) := by decide +kernel
theorem dX3_smallestPair_7 : decode cX3_smallestPair 7 = .ok (.iconst 1, 1) := by decide +kernel
theorem dX3_smallestPair_8 : decode cX3_smallestPair 8 = .ok (.iadd, 1) := by decide +kernel
theorem dX3_smallestPair_9 : decode cX3_smallestPair 9 = .ok (.aload_n 0, 1) := by decide +kernel
theorem dX3_smallestPair_10 : decode cX3_smallestPair 10 = .ok (.getfield 21, 3) := by decide +kernel
theorem dX3_smallestPair_13 : decode cX3_smallestPair 13 = .ok (.if_icmp .ge 63, 3) := by decide +kernel
theorem dX3_smallestPair_16 : decode cX3_smallestPair 16 = .ok (.iload_n 3, 1) := by decide +kernel
theorem dX3_smallestPair_17 : decode cX3_smallestPair 17 = .ok (.iconst 3, 1) := by decide +kernel
theorem dX3_smallestPair_18 : decode cX3_smallestPair 18 = .ok (.if_icmp .ge 58, 3) := by decide +kernel
theorem dX3_smallestPair_21 : decode cX3_smallestPair 21 = .ok (.aload_n 0, 1) := by decide +kernel
theorem dX3_smallestPair_22 : decode cX3_smallestPair 22 = .ok (.getfield 15, 3) := by decide +kernel
theorem dX3_smallestPair_25 : decode cX3_smallestPair 25 = .ok (.iload_n 3, 1) := by decide +kernel
theorem dX3_smallestPair_26 : decode cX3_smallestPair 26 = .ok (.iaload, 1) := by decide +kernel
theorem dX3_smallestPair_27 : decode cX3_smallestPair 27 = .ok (.aload_n 0, 1) := by decide +kernel
theorem dX3_smallestPair_28 : decode cX3_smallestPair 28 = .ok (.getfield 18, 3) := by decide +kernel
theorem dX3_smallestPair_31 : decode cX3_smallestPair 31 = .ok (.iload_n 3, 1) := by decide +kernel
theorem dX3_smallestPair_32 : decode cX3_smallestPair 32 = .ok (.iaload, 1) := by decide +kernel
theorem dX3_smallestPair_33 : decode cX3_smallestPair 33 = .ok (.iadd, 1) := by decide +kernel
theorem dX3_smallestPair_34 : decode cX3_smallestPair 34 = .ok (.aload_n 0, 1) := by decide +kernel
theorem dX3_smallestPair_35 : decode cX3_smallestPair 35 = .ok (.getfield 15, 3) := by decide +kernel
theorem dX3_smallestPair_38 : decode cX3_smallestPair 38 = .ok (.iload_n 3, 1) := by decide +kernel
theorem dX3_smallestPair_39 : decode cX3_smallestPair 39 = .ok (.iconst 1, 1) := by decide +kernel
theorem dX3_smallestPair_40 : decode cX3_smallestPair 40 = .ok (.iadd, 1) := by decide +kernel
theorem dX3_smallestPair_41 : decode cX3_smallestPair 41 = .ok (.iaload, 1) := by decide +kernel
theorem dX3_smallestPair_42 : decode cX3_smallestPair 42 = .ok (.iadd, 1) := by decide +kernel
theorem dX3_smallestPair_43 : decode cX3_smallestPair 43 = .ok (.aload_n 0, 1) := by decide +kernel
theorem dX3_smallestPair_44 : decode cX3_smallestPair 44 = .ok (.getfield 18, 3) := by decide +kernel
theorem dX3_smallestPair_47 : decode cX3_smallestPair 47 = .ok (.iload_n 3, 1) := by decide +kernel
theorem dX3_smallestPair_48 : decode cX3_smallestPair 48 = .ok (.iconst 1, 1) := by decide +kernel
theorem dX3_smallestPair_49 : decode cX3_smallestPair 49 = .ok (.iadd, 1) := by decide +kernel
theorem dX3_smallestPair_50 : decode cX3_smallestPair 50 = .ok (.iaload, 1) := by decide +kernel
theorem dX3_smallestPair_51 : decode cX3_smallestPair 51 = .ok (.iadd, 1) := by decide +kernel
theorem dX3_smallestPair_52 : decode cX3_smallestPair 52 = .ok (.istore 4, 2) := by decide +kernel
theorem dX3_smallestPair_54 : decode cX3_smallestPair 54 = .ok (.iload_n 1, 1) := by decide +kernel
theorem dX3_smallestPair_55 : decode cX3_smallestPair 55 = .ok (.iconst (-1), 1) := by decide +kernel
theorem dX3_smallestPair_56 : decode cX3_smallestPair 56 = .ok (.if_icmp .eq 9, 3) := by decide +kernel
theorem dX3_smallestPair_59 : decode cX3_smallestPair 59 = .ok (.iload 4, 2) := by decide +kernel
theorem dX3_smallestPair_61 : decode cX3_smallestPair 61 = .ok (.iload_n 2, 1) := by decide +kernel
theorem dX3_smallestPair_62 : decode cX3_smallestPair 62 = .ok (.if_icmp .ge 8, 3) := by decide +kernel
theorem dX3_smallestPair_65 : decode cX3_smallestPair 65 = .ok (.iload 4, 2) := by decide +kernel
theorem dX3_smallestPair_67 : decode cX3_smallestPair 67 = .ok (.istore_n 2, 1) := by decide +kernel
theorem dX3_smallestPair_68 : decode cX3_smallestPair 68 = .ok (.iload_n 3, 1) := by decide +kernel
theorem dX3_smallestPair_69 : decode cX3_smallestPair 69 = .ok (.istore_n 1, 1) := by decide +kernel
theorem dX3_smallestPair_70 : decode cX3_smallestPair 70 = .ok (.iinc 3 1, 3) := by decide +kernel
theorem dX3_smallestPair_73 : decode cX3_smallestPair 73 = .ok (.goto (-67), 3) := by decide +kernel
theorem dX3_smallestPair_76 : decode cX3_smallestPair 76 = .ok (.iload_n 1, 1) := by decide +kernel
theorem dX3_smallestPair_77 : decode cX3_smallestPair 77 = .ok (.ireturn, 1) := by decide +kernel
theorem dX3_joinWithNext_0 : decode cX3_joinWithNext 0 = .ok (.iload_n 1, 1) := by decide +kernel
theorem dX3_joinWithNext_1 : decode cX3_joinWithNext 1 = .ok (.ifCond .lt 18, 3) := by decide +kernel
theorem dX3_joinWithNext_4 : decode cX3_joinWithNext 4 = .ok (.iload_n 1, 1) := by decide +kernel
theorem dX3_joinWithNext_5 : decode cX3_joinWithNext 5 = .ok (.iconst 3, 1) := by decide +kernel
theorem dX3_joinWithNext_6 : decode cX3_joinWithNext 6 = .ok (.if_icmp .ge 13, 3) := by decide +kernel
theorem dX3_joinWithNext_9 : decode cX3_joinWithNext 9 = .ok (.iload_n 1, 1) := by decide +kernel
theorem dX3_joinWithNext_10 : decode cX3_joinWithNext 10 = .ok (.iconst 1, 1) := by decide +kernel
theorem dX3_joinWithNext_11 : decode cX3_joinWithNext 11 = .ok (.iadd, 1) := by decide +kernel
theorem dX3_joinWithNext_12 : decode cX3_joinWithNext 12 = .ok (.aload_n 0, 1) := by decide +kernel
theorem dX3_joinWithNext_13 : decode cX3_joinWithNext 13 = .ok (.getfield 21, 3) := by decide +kernel
theorem dX3_joinWithNext_16 : decode cX3_joinWithNext 16 = .ok (.if_icmp .lt 4, 3) := by decide +kernel
theorem dX3_joinWithNext_19 : decode cX3_joinWithNext 19 = .ok (.return_, 1) := by decide +kernel
theorem dX3_joinWithNext_20 : decode cX3_joinWithNext 20 = .ok (.aload_n 0, 1) := by decide +kernel
theorem dX3_joinWithNext_21 : decode cX3_joinWithNext 21 = .ok (.getfield 15, 3) := by decide +kernel
theorem dX3_joinWithNext_24 : decode cX3_joinWithNext 24 = .ok (.iload_n 1, 1) := by decide +kernel
theorem dX3_joinWithNext_25 : decode cX3_joinWithNext 25 = .ok (.dup2, 1) := by decide +kernel
theorem dX3_joinWithNext_26 : decode cX3_joinWithNext 26 = .ok (.iaload, 1) := by decide +kernel
theorem dX3_joinWithNext_27 : decode cX3_joinWithNext 27 = .ok (.aload_n 0, 1) := by decide +kernel
theorem dX3_joinWithNext_28 : decode cX3_joinWithNext 28 = .ok (.getfield 15, 3) := by decide +kernel
theorem dX3_joinWithNext_31 : decode cX3_joinWithNext 31 = .ok (.iload_n 1, 1) := by decide +kernel
theorem dX3_joinWithNext_32 : decode cX3_joinWithNext 32 = .ok (.iconst 1, 1) := by decide +kernel
theorem dX3_joinWithNext_33 : decode cX3_joinWithNext 33 = .ok (.iadd, 1) := by decide +kernel
theorem dX3_joinWithNext_34 : decode cX3_joinWithNext 34 = .ok (.iaload, 1) := by decide +kernel
theorem dX3_joinWithNext_35 : decode cX3_joinWithNext 35 = .ok (.iadd, 1) := by decide +kernel
theorem dX3_joinWithNext_36 : decode cX3_joinWithNext 36 = .ok (.iastore, 1) := by decide +kernel
theorem dX3_joinWithNext_37 : decode cX3_joinWithNext 37 = .ok (.aload_n 0, 1) := by decide +kernel
theorem dX3_joinWithNext_38 : decode cX3_joinWithNext 38 = .ok (.getfield 18, 3) := by decide +kernel
theorem dX3_joinWithNext_41 : decode cX3_joinWithNext 41 = .ok (.iload_n 1, 1) := by decide +kernel
theorem dX3_joinWithNext_42 : decode cX3_joinWithNext 42 = .ok (.iconst 0, 1) := by decide +kernel
theorem dX3_joinWithNext_43 : decode cX3_joinWithNext 43 = .ok (.iastore, 1) := by decide +kernel
theorem dX3_joinWithNext_44 : decode cX3_joinWithNext 44 = .ok (.iconst 0, 1) := by decide +kernel
theorem dX3_joinWithNext_45 : decode cX3_joinWithNext 45 = .ok (.istore_n 2, 1) := by decide +kernel
theorem dX3_joinWithNext_46 : decode cX3_joinWithNext 46 = .ok (.iload_n 2, 1) := by decide +kernel
theorem dX3_joinWithNext_47 : decode cX3_joinWithNext 47 = .ok (.bipush 60, 2) := by decide +kernel
theorem dX3_joinWithNext_49 : decode cX3_joinWithNext 49 = .ok (.if_icmp .ge 28, 3) := by decide +kernel
theorem dX3_joinWithNext_52 : decode cX3_joinWithNext 52 = .ok (.aload_n 0, 1) := by decide +kernel
theorem dX3_joinWithNext_53 : decode cX3_joinWithNext 53 = .ok (.getfield 9, 3) := by decide +kernel
theorem dX3_joinWithNext_56 : decode cX3_joinWithNext 56 = .ok (.iload_n 2, 1) := by decide +kernel
theorem dX3_joinWithNext_57 : decode cX3_joinWithNext 57 = .ok (.iaload, 1) := by decide +kernel
theorem dX3_joinWithNext_58 : decode cX3_joinWithNext 58 = .ok (.iload_n 1, 1) := by decide +kernel
theorem dX3_joinWithNext_59 : decode cX3_joinWithNext 59 = .ok (.iconst 1, 1) := by decide +kernel
theorem dX3_joinWithNext_60 : decode cX3_joinWithNext 60 = .ok (.iadd, 1) := by decide +kernel
theorem dX3_joinWithNext_61 : decode cX3_joinWithNext 61 = .ok (.if_icmp .ne 10, 3) := by decide +kernel
theorem dX3_joinWithNext_64 : decode cX3_joinWithNext 64 = .ok (.aload_n 0, 1) := by decide +kernel
theorem dX3_joinWithNext_65 : decode cX3_joinWithNext 65 = .ok (.getfield 9, 3) := by decide +kernel
theorem dX3_joinWithNext_68 : decode cX3_joinWithNext 68 = .ok (.iload_n 2, 1) := by decide +kernel
theorem dX3_joinWithNext_69 : decode cX3_joinWithNext 69 = .ok (.iload_n 1, 1) := by decide +kernel
theorem dX3_joinWithNext_70 : decode cX3_joinWithNext 70 = .ok (.iastore, 1) := by decide +kernel
theorem dX3_joinWithNext_71 : decode cX3_joinWithNext 71 = .ok (.iinc 2 1, 3) := by decide +kernel
theorem dX3_joinWithNext_74 : decode cX3_joinWithNext 74 = .ok (.goto (-28), 3) := by decide +kernel
theorem dX3_joinWithNext_77 : decode cX3_joinWithNext 77 = .ok (.aload_n 0, 1) := by decide +kernel
theorem dX3_joinWithNext_78 : decode cX3_joinWithNext 78 = .ok (.iload_n 1, 1) := by decide +kernel
theorem dX3_joinWithNext_79 : decode cX3_joinWithNext 79 = .ok (.iconst 1, 1) := by decide +kernel
theorem dX3_joinWithNext_80 : decode cX3_joinWithNext 80 = .ok (.iadd, 1) := by decide +kernel
theorem dX3_joinWithNext_81 : decode cX3_joinWithNext 81 = .ok (.invokevirtual 42, 3) := by decide +kernel
theorem dX3_joinWithNext_84 : decode cX3_joinWithNext 84 = .ok (.return_, 1) := by decide +kernel
theorem dX4_countActs_0 : decode cX4_countActs 0 = .ok (.aload_n 0, 1) := by decide +kernel
theorem dX4_countActs_1 : decode cX4_countActs 1 = .ok (.getfield 12, 3) := by decide +kernel
theorem dX4_countActs_4 : decode cX4_countActs 4 = .ok (.invokevirtual 41, 3) := by decide +kernel
theorem dX4_countActs_7 : decode cX4_countActs 7 = .ok (.ireturn, 1) := by decide +kernel
theorem dX4_countSegments_0 : decode cX4_countSegments 0 = .ok (.aload_n 0, 1) := by decide +kernel
theorem dX4_countSegments_1 : decode cX4_countSegments 1 = .ok (.getfield 21, 3) := by decide +kernel
theorem dX4_countSegments_4 : decode cX4_countSegments 4 = .ok (.invokevirtual 45, 3) := by decide +kernel
theorem dX4_countSegments_7 : decode cX4_countSegments 7 = .ok (.ireturn, 1) := by decide +kernel
theorem dX4_countDead_0 : decode cX4_countDead 0 = .ok (.aload_n 0, 1) := by decide +kernel
theorem dX4_countDead_1 : decode cX4_countDead 1 = .ok (.getfield 21, 3) := by decide +kernel
theorem dX4_countDead_4 : decode cX4_countDead 4 = .ok (.invokevirtual 46, 3) := by decide +kernel
theorem dX4_countDead_7 : decode cX4_countDead 7 = .ok (.ireturn, 1) := by decide +kernel
theorem dX4_lookAtAllEntries_0 : decode cX4_lookAtAllEntries 0 = .ok (.iconst 0, 1) := by decide +kernel
theorem dX4_lookAtAllEntries_1 : decode cX4_lookAtAllEntries 1 = .ok (.istore_n 1, 1) := by decide +kernel
theorem dX4_lookAtAllEntries_2 : decode cX4_lookAtAllEntries 2 = .ok (.iload_n 1, 1) := by decide +kernel
theorem dX4_lookAtAllEntries_3 : decode cX4_lookAtAllEntries 3 = .ok (.bipush 60, 2) := by decide +kernel
theorem dX4_lookAtAllEntries_5 : decode cX4_lookAtAllEntries 5 = .ok (.if_icmp .ge 29, 3) := by decide +kernel
theorem dX4_lookAtAllEntries_8 : decode cX4_lookAtAllEntries 8 = .ok (.aload_n 0, 1) := by decide +kernel
theorem dX4_lookAtAllEntries_9 : decode cX4_lookAtAllEntries 9 = .ok (.getfield 37, 3) := by decide +kernel
theorem dX4_lookAtAllEntries_12 : decode cX4_lookAtAllEntries 12 = .ok (.iload_n 1, 1) := by decide +kernel
theorem dX4_lookAtAllEntries_13 : decode cX4_lookAtAllEntries 13 = .ok (.invokevirtual 49, 3) := by decide +kernel
theorem dX4_lookAtAllEntries_16 : decode cX4_lookAtAllEntries 16 = .ok (.ifCond .eq 12, 3) := by decide +kernel
theorem dX4_lookAtAllEntries_19 : decode cX4_lookAtAllEntries 19 = .ok (.aload_n 0, 1) := by decide +kernel
theorem dX4_lookAtAllEntries_20 : decode cX4_lookAtAllEntries 20 = .ok (.getfield 12, 3) := by decide +kernel
theorem dX4_lookAtAllEntries_23 : decode cX4_lookAtAllEntries 23 = .ok (.iload_n 1, 1) := by decide +kernel
theorem dX4_lookAtAllEntries_24 : decode cX4_lookAtAllEntries 24 = .ok (.iconst 1, 1) := by decide +kernel
theorem dX4_lookAtAllEntries_25 : decode cX4_lookAtAllEntries 25 = .ok (.invokevirtual 55, 3) := by decide +kernel
theorem dX4_lookAtAllEntries_28 : decode cX4_lookAtAllEntries 28 = .ok (.iinc 1 1, 3) := by decide +kernel
theorem dX4_lookAtAllEntries_31 : decode cX4_lookAtAllEntries 31 = .ok (.goto (-29), 3) := by decide +kernel
theorem dX4_lookAtAllEntries_34 : decode cX4_lookAtAllEntries 34 = .ok (.return_, 1) := by decide +kernel
theorem dX4_doSteps_0 : decode cX4_doSteps 0 = .ok (.iconst 0, 1) := by decide +kernel
theorem dX4_doSteps_1 : decode cX4_doSteps 1 = .ok (.istore_n 2, 1) := by decide +kernel
theorem dX4_doSteps_2 : decode cX4_doSteps 2 = .ok (.iconst 0, 1) := by decide +kernel
theorem dX4_doSteps_3 : decode cX4_doSteps 3 = .ok (.istore_n 3, 1) := by decide +kernel
theorem dX4_doSteps_4 : decode cX4_doSteps 4 = .ok (.iload_n 3, 1) := by decide +kernel
theorem dX4_doSteps_5 : decode cX4_doSteps 5 = .ok (.iload_n 1, 1) := by decide +kernel
theorem dX4_doSteps_6 : decode cX4_doSteps 6 = .ok (.if_icmp .ge 36, 3) := by decide +kernel
theorem dX4_doSteps_9 : decode cX4_doSteps 9 = .ok (.iload_n 2, 1) := by decide +kernel
theorem dX4_doSteps_10 : decode cX4_doSteps 10 = .ok (.iload_n 1, 1) := by decide +kernel
theorem dX4_doSteps_11 : decode cX4_doSteps 11 = .ok (.if_icmp .ge 31, 3) := by decide +kernel
theorem dX4_doSteps_14 : decode cX4_doSteps 14 = .ok (.aload_n 0, 1) := by decide +kernel
theorem dX4_doSteps_15 : decode cX4_doSteps 15 = .ok (.iload_n 1, 1) := by decide +kernel
theorem dX4_doSteps_16 : decode cX4_doSteps 16 = .ok (.iload_n 2, 1) := by decide +kernel
theorem dX4_doSteps_17 : decode cX4_doSteps 17 = .ok (.isub, 1) := by decide +kernel
theorem dX4_doSteps_18 : decode cX4_doSteps 18 = .ok (.invokevirtual 59, 3) := by decide +kernel
theorem dX4_doSteps_21 : decode cX4_doSteps 21 = .ok (.istore 4, 2) := by decide +kernel
theorem dX4_doSteps_23 : decode cX4_doSteps 23 = .ok (.iload 4, 2) := by decide +kernel
theorem dX4_doSteps_25 : decode cX4_doSteps 25 = .ok (.ifCond .ne 6, 3) := by decide +kernel
theorem dX4_doSteps_28 : decode cX4_doSteps 28 = .ok (.goto 14, 3) := by decide +kernel
theorem dX4_doSteps_31 : decode cX4_doSteps 31 = .ok (.iload_n 2, 1) := by decide +kernel
theorem dX4_doSteps_32 : decode cX4_doSteps 32 = .ok (.iload 4, 2) := by decide +kernel
theorem dX4_doSteps_34 : decode cX4_doSteps 34 = .ok (.iadd, 1) := by decide +kernel
theorem dX4_doSteps_35 : decode cX4_doSteps 35 = .ok (.istore_n 2, 1) := by decide +kernel
theorem dX4_doSteps_36 : decode cX4_doSteps 36 = .ok (.iinc 3 1, 3) := by decide +kernel
theorem dX4_doSteps_39 : decode cX4_doSteps 39 = .ok (.goto (-35), 3) := by decide +kernel
theorem dX4_doSteps_42 : decode cX4_doSteps 42 = .ok (.aload_n 0, 1) := by decide +kernel
theorem dX4_doSteps_43 : decode cX4_doSteps 43 = .ok (.getfield 12, 3) := by decide +kernel
theorem dX4_doSteps_46 : decode cX4_doSteps 46 = .ok (.invokevirtual 63, 3) := by decide +kernel
theorem dX4_doSteps_49 : decode cX4_doSteps 49 = .ok (.aload_n 0, 1) := by decide +kernel
theorem dX4_doSteps_50 : decode cX4_doSteps 50 = .ok (.getfield 21, 3) := by decide +kernel
theorem dX4_doSteps_53 : decode cX4_doSteps 53 = .ok (.aload_n 0, 1) := by decide +kernel
theorem dX4_doSteps_54 : decode cX4_doSteps 54 = .ok (.getfield 37, 3) := by decide +kernel
theorem dX4_doSteps_57 : decode cX4_doSteps 57 = .ok (.invokevirtual 66, 3) := by decide +kernel
theorem dX4_doSteps_60 : decode cX4_doSteps 60 = .ok (.aload_n 0, 1) := by decide +kernel
theorem dX4_doSteps_61 : decode cX4_doSteps 61 = .ok (.getfield 37, 3) := by decide +kernel
theorem dX4_doSteps_64 : decode cX4_doSteps 64 = .ok (.invokevirtual 69, 3) := by decide +kernel
theorem dX4_doSteps_67 : decode cX4_doSteps 67 = .ok (.iload_n 2, 1) := by decide +kernel
theorem dX4_doSteps_68 : decode cX4_doSteps 68 = .ok (.ireturn, 1) := by decide +kernel
theorem dX4_doNext_0 : decode cX4_doNext 0 = .ok (.aload_n 0, 1) := by decide +kernel
theorem dX4_doNext_1 : decode cX4_doNext 1 = .ok (.getfield 29, 3) := by decide +kernel
theorem dX4_doNext_4 : decode cX4_doNext 4 = .ok (.invokevirtual 70, 3) := by decide +kernel
theorem dX4_doNext_7 : decode cX4_doNext 7 = .ok (.astore_n 2, 1) := by decide +kernel
theorem dX4_doNext_8 : decode cX4_doNext 8 = .ok (.aload_n 2, 1) := by decide +kernel
theorem dX4_doNext_9 : decode cX4_doNext 9 = .ok (.ifnull 10, 3) := by decide +kernel
theorem dX4_doNext_12 : decode cX4_doNext 12 = .ok (.aload_n 0, 1) := by decide +kernel
theorem dX4_doNext_13 : decode cX4_doNext 13 = .ok (.aload_n 2, 1) := by decide +kernel
theorem dX4_doNext_14 : decode cX4_doNext 14 = .ok (.invokevirtual 76, 3) := by decide +kernel
theorem dX4_doNext_17 : decode cX4_doNext 17 = .ok (.iconst 1, 1) := by decide +kernel
theorem dX4_doNext_18 : decode cX4_doNext 18 = .ok (.ireturn, 1) := by decide +kernel
theorem dX4_doNext_19 : decode cX4_doNext 19 = .ok (.aload_n 0, 1) := by decide +kernel
theorem dX4_doNext_20 : decode cX4_doNext 20 = .ok (.getfield 12, 3) := by decide +kernel
theorem dX4_doNext_23 : decode cX4_doNext 23 = .ok (.invokevirtual 80, 3) := by decide +kernel
theorem dX4_doNext_26 : decode cX4_doNext 26 = .ok (.istore_n 3, 1) := by decide +kernel
theorem dX4_doNext_27 : decode cX4_doNext 27 = .ok (.iload_n 3, 1) := by decide +kernel
theorem dX4_doNext_28 : decode cX4_doNext 28 = .ok (.iconst (-1), 1) := by decide +kernel
theorem dX4_doNext_29 : decode cX4_doNext 29 = .ok (.if_icmp .eq 10, 3) := by decide +kernel
theorem dX4_doNext_32 : decode cX4_doNext 32 = .ok (.aload_n 0, 1) := by decide +kernel
theorem dX4_doNext_33 : decode cX4_doNext 33 = .ok (.iload_n 3, 1) := by decide +kernel
theorem dX4_doNext_34 : decode cX4_doNext 34 = .ok (.iload_n 1, 1) := by decide +kernel
theorem dX4_doNext_35 : decode cX4_doNext 35 = .ok (.invokevirtual 83, 3) := by decide +kernel
theorem dX4_doNext_38 : decode cX4_doNext 38 = .ok (.ireturn, 1) := by decide +kernel
theorem dX4_doNext_39 : decode cX4_doNext 39 = .ok (.aload_n 0, 1) := by decide +kernel
theorem dX4_doNext_40 : decode cX4_doNext 40 = .ok (.getfield 29, 3) := by decide +kernel
theorem dX4_doNext_43 : decode cX4_doNext 43 = .ok (.invokevirtual 87, 3) := by decide +kernel
theorem dX4_doNext_46 : decode cX4_doNext 46 = .ok (.astore 4, 2) := by decide +kernel
theorem dX4_doNext_48 : decode cX4_doNext 48 = .ok (.aload 4, 2) := by decide +kernel
theorem dX4_doNext_50 : decode cX4_doNext 50 = .ok (.ifnull 11, 3) := by decide +kernel
theorem dX4_doNext_53 : decode cX4_doNext 53 = .ok (.aload_n 0, 1) := by decide +kernel
theorem dX4_doNext_54 : decode cX4_doNext 54 = .ok (.aload 4, 2) := by decide +kernel
theorem dX4_doNext_56 : decode cX4_doNext 56 = .ok (.invokevirtual 90, 3) := by decide +kernel
theorem dX4_doNext_59 : decode cX4_doNext 59 = .ok (.iconst 1, 1) := by decide +kernel
theorem dX4_doNext_60 : decode cX4_doNext 60 = .ok (.ireturn, 1) := by decide +kernel
theorem dX4_doNext_61 : decode cX4_doNext 61 = .ok (.iconst 0, 1) := by decide +kernel
theorem dX4_doNext_62 : decode cX4_doNext 62 = .ok (.ireturn, 1) := by decide +kernel
theorem dX4_hear_0 : decode cX4_hear 0 = .ok (.aload_n 1, 1) := by decide +kernel
theorem dX4_hear_1 : decode cX4_hear 1 = .ok (.getfield 93, 3) := by decide +kernel
theorem dX4_hear_4 : decode cX4_hear 4 = .ok (.ifCond .eq 13, 3) := by decide +kernel
theorem dX4_hear_7 : decode cX4_hear 7 = .ok (.aload_n 1, 1) := by decide +kernel
theorem dX4_hear_8 : decode cX4_hear 8 = .ok (.iconst 0, 1) := by decide +kernel
theorem dX4_hear_9 : decode cX4_hear 9 = .ok (.putfield 93, 3) := by decide +kernel
theorem dX4_hear_12 : decode cX4_hear 12 = .ok (.aload_n 1, 1) := by decide +kernel
theorem dX4_hear_13 : decode cX4_hear 13 = .ok (.invokevirtual 99, 3) := by decide +kernel
theorem dX4_hear_16 : decode cX4_hear 16 = .ok (.return_, 1) := by decide +kernel
theorem dX4_hear_17 : decode cX4_hear 17 = .ok (.aload_n 0, 1) := by decide +kernel
theorem dX4_hear_18 : decode cX4_hear 18 = .ok (.getfield 12, 3) := by decide +kernel
theorem dX4_hear_21 : decode cX4_hear 21 = .ok (.aload_n 1, 1) := by decide +kernel
theorem dX4_hear_22 : decode cX4_hear 22 = .ok (.getfield 102, 3) := by decide +kernel
theorem dX4_hear_25 : decode cX4_hear 25 = .ok (.iconst 0, 1) := by decide +kernel
theorem dX4_hear_26 : decode cX4_hear 26 = .ok (.iaload, 1) := by decide +kernel
theorem dX4_hear_27 : decode cX4_hear 27 = .ok (.aload_n 1, 1) := by decide +kernel
theorem dX4_hear_28 : decode cX4_hear 28 = .ok (.getfield 106, 3) := by decide +kernel
theorem dX4_hear_31 : decode cX4_hear 31 = .ok (.iconst 0, 1) := by decide +kernel
theorem dX4_hear_32 : decode cX4_hear 32 = .ok (.iaload, 1) := by decide +kernel
theorem dX4_hear_33 : decode cX4_hear 33 = .ok (.iconst 3, 1) := by decide +kernel
theorem dX4_hear_34 : decode cX4_hear 34 = .ok (.if_icmp .ne 7, 3) := by decide +kernel
theorem dX4_hear_37 : decode cX4_hear 37 = .ok (.iconst 2, 1) := by decide +kernel
theorem dX4_hear_38 : decode cX4_hear 38 = .ok (.goto 4, 3) := by decide +kernel
theorem dX4_hear_41 : decode cX4_hear 41 = .ok (.iconst 1, 1) := by decide +kernel
theorem dX4_hear_42 : decode cX4_hear 42 = .ok (.invokevirtual 55, 3) := by decide +kernel
theorem dX4_hear_45 : decode cX4_hear 45 = .ok (.aload_n 1, 1) := by decide +kernel
theorem dX4_hear_46 : decode cX4_hear 46 = .ok (.invokevirtual 109, 3) := by decide +kernel
theorem dX4_hear_49 : decode cX4_hear 49 = .ok (.return_, 1) := by decide +kernel
theorem dX4_act_0 : decode cX4_act 0 = .ok (.aload_n 0, 1) := by decide +kernel
theorem dX4_act_1 : decode cX4_act 1 = .ok (.getfield 12, 3) := by decide +kernel
theorem dX4_act_4 : decode cX4_act 4 = .ok (.iload_n 1, 1) := by decide +kernel
theorem dX4_act_5 : decode cX4_act 5 = .ok (.invokevirtual 112, 3) := by decide +kernel
theorem dX4_act_8 : decode cX4_act 8 = .ok (.iconst 1, 1) := by decide +kernel
theorem dX4_act_9 : decode cX4_act 9 = .ok (.if_icmp .ne 7, 3) := by decide +kernel
theorem dX4_act_12 : decode cX4_act 12 = .ok (.iconst 1, 1) := by decide +kernel
theorem dX4_act_13 : decode cX4_act 13 = .ok (.goto 4, 3) := by decide +kernel
theorem dX4_act_16 : decode cX4_act 16 = .ok (.iconst 0, 1) := by decide +kernel
theorem dX4_act_17 : decode cX4_act 17 = .ok (.istore_n 3, 1) := by decide +kernel
theorem dX4_act_18 : decode cX4_act 18 = .ok (.aload_n 0, 1) := by decide +kernel
theorem dX4_act_19 : decode cX4_act 19 = .ok (.getfield 29, 3) := by decide +kernel
theorem dX4_act_22 : decode cX4_act 22 = .ok (.iload_n 1, 1) := by decide +kernel
theorem dX4_act_23 : decode cX4_act 23 = .ok (.invokevirtual 115, 3) := by decide +kernel
theorem dX4_act_26 : decode cX4_act 26 = .ok (.ifnull 7, 3) := by decide +kernel
theorem dX4_act_29 : decode cX4_act 29 = .ok (.iconst 1, 1) := by decide +kernel
theorem dX4_act_30 : decode cX4_act 30 = .ok (.goto 4, 3) := by decide +kernel
theorem dX4_act_33 : decode cX4_act 33 = .ok (.iconst 0, 1) := by decide +kernel
theorem dX4_act_34 : decode cX4_act 34 = .ok (.istore 4, 2) := by decide +kernel
theorem dX4_act_36 : decode cX4_act 36 = .ok (.iload_n 3, 1) := by decide +kernel
theorem dX4_act_37 : decode cX4_act 37 = .ok (.ifCond .eq 26, 3) := by decide +kernel
theorem dX4_act_40 : decode cX4_act 40 = .ok (.iload 4, 2) := by decide +kernel
theorem dX4_act_42 : decode cX4_act 42 = .ok (.ifCond .eq 21, 3) := by decide +kernel
theorem dX4_act_45 : decode cX4_act 45 = .ok (.aload_n 0, 1) := by decide +kernel
theorem dX4_act_46 : decode cX4_act 46 = .ok (.getfield 25, 3) := by decide +kernel
theorem dX4_act_49 : decode cX4_act 49 = .ok (.iload_n 1, 1) := by decide +kernel
theorem dX4_act_50 : decode cX4_act 50 = .ok (.invokevirtual 119, 3) := by decide +kernel
theorem dX4_act_53 : decode cX4_act 53 = .ok (.ifCond .eq 10, 3) := by decide +kernel
theorem dX4_act_56 : decode cX4_act 56 = .ok (.aload_n 0, 1) := by decide +kernel
theorem dX4_act_57 : decode cX4_act 57 = .ok (.iload_n 1, 1) := by decide +kernel
theorem dX4_act_58 : decode cX4_act 58 = .ok (.iload_n 2, 1) := by decide +kernel
theorem dX4_act_59 : decode cX4_act 59 = .ok (.invokevirtual 124, 3) := by decide +kernel
theorem dX4_act_62 : decode cX4_act 62 = .ok (.ireturn, 1) := by decide +kernel
theorem dX4_act_63 : decode cX4_act 63 = .ok (.aload_n 0, 1) := by decide +kernel
theorem dX4_act_64 : decode cX4_act 64 = .ok (.getfield 12, 3) := by decide +kernel
theorem dX4_act_67 : decode cX4_act 67 = .ok (.iload_n 1, 1) := by decide +kernel
theorem dX4_act_68 : decode cX4_act 68 = .ok (.invokevirtual 127, 3) := by decide +kernel
theorem dX4_act_71 : decode cX4_act 71 = .ok (.iload 4, 2) := by decide +kernel
theorem dX4_act_73 : decode cX4_act 73 = .ok (.ifCond .ne 14, 3) := by decide +kernel
theorem dX4_act_76 : decode cX4_act 76 = .ok (.aload_n 0, 1) := by decide +kernel
theorem dX4_act_77 : decode cX4_act 77 = .ok (.getfield 37, 3) := by decide +kernel
theorem dX4_act_80 : decode cX4_act 80 = .ok (.iload_n 1, 1) := by decide +kernel
theorem dX4_act_81 : decode cX4_act 81 = .ok (.invokevirtual 131, 3) := by decide +kernel
theorem dX4_act_84 : decode cX4_act 84 = .ok (.goto 24, 3) := by decide +kernel
theorem dX4_act_87 : decode cX4_act 87 = .ok (.iload_n 3, 1) := by decide +kernel
theorem dX4_act_88 : decode cX4_act 88 = .ok (.ifCond .eq 11, 3) := by decide +kernel
theorem dX4_act_91 : decode cX4_act 91 = .ok (.aload_n 0, 1) := by decide +kernel
theorem dX4_act_92 : decode cX4_act 92 = .ok (.iload_n 1, 1) := by decide +kernel
theorem dX4_act_93 : decode cX4_act 93 = .ok (.invokevirtual 132, 3) := by decide +kernel
theorem dX4_act_96 : decode cX4_act 96 = .ok (.goto 12, 3) := by decide +kernel
theorem dX4_act_99 : decode cX4_act 99 = .ok (.aload_n 0, 1) := by decide +kernel
theorem dX4_act_100 : decode cX4_act 100 = .ok (.getfield 12, 3) := by decide +kernel
theorem dX4_act_103 : decode cX4_act 103 = .ok (.iload_n 1, 1) := by decide +kernel
theorem dX4_act_104 : decode cX4_act 104 = .ok (.iconst 1, 1) := by decide +kernel
theorem dX4_act_105 : decode cX4_act 105 = .ok (.invokevirtual 55, 3) := by decide +kernel
theorem dX4_act_108 : decode cX4_act 108 = .ok (.iconst 1, 1) := by decide +kernel
theorem dX4_act_109 : decode cX4_act 109 = .ok (.ireturn, 1) := by decide +kernel
theorem dX4_lookAtFile_0 : decode cX4_lookAtFile 0 = .ok (.aload_n 0, 1) := by decide +kernel
theorem dX4_lookAtFile_1 : decode cX4_lookAtFile 1 = .ok (.getfield 25, 3) := by decide +kernel
theorem dX4_lookAtFile_4 : decode cX4_lookAtFile 4 = .ok (.iload_n 1, 1) := by decide +kernel
theorem dX4_lookAtFile_5 : decode cX4_lookAtFile 5 = .ok (.invokevirtual 135, 3) := by decide +kernel
theorem dX4_lookAtFile_8 : decode cX4_lookAtFile 8 = .ok (.ifCond .eq 13, 3) := by decide +kernel
theorem dX4_lookAtFile_11 : decode cX4_lookAtFile 11 = .ok (.aload_n 0, 1) := by decide +kernel
theorem dX4_lookAtFile_12 : decode cX4_lookAtFile 12 = .ok (.getfield 12, 3) := by decide +kernel
theorem dX4_lookAtFile_15 : decode cX4_lookAtFile 15 = .ok (.iload_n 1, 1) := by decide +kernel
theorem dX4_lookAtFile_16 : decode cX4_lookAtFile 16 = .ok (.invokevirtual 138, 3) := by decide +kernel
theorem dX4_lookAtFile_19 : decode cX4_lookAtFile 19 = .ok (.iconst 1, 1) := by decide +kernel
theorem dX4_lookAtFile_20 : decode cX4_lookAtFile 20 = .ok (.ireturn, 1) := by decide +kernel
theorem dX4_lookAtFile_21 : decode cX4_lookAtFile 21 = .ok (.iconst 1, 1) := by decide +kernel
theorem dX4_lookAtFile_22 : decode cX4_lookAtFile 22 = .ok (.istore_n 3, 1) := by decide +kernel
theorem dX4_lookAtFile_23 : decode cX4_lookAtFile 23 = .ok (.aload_n 0, 1) := by decide +kernel
theorem dX4_lookAtFile_24 : decode cX4_lookAtFile 24 = .ok (.getfield 37, 3) := by decide +kernel
theorem dX4_lookAtFile_27 : decode cX4_lookAtFile 27 = .ok (.iload_n 1, 1) := by decide +kernel
theorem dX4_lookAtFile_28 : decode cX4_lookAtFile 28 = .ok (.invokevirtual 141, 3) := by decide +kernel
theorem dX4_lookAtFile_31 : decode cX4_lookAtFile 31 = .ok (.aload_n 0, 1) := by decide +kernel
theorem dX4_lookAtFile_32 : decode cX4_lookAtFile 32 = .ok (.getfield 25, 3) := by decide +kernel
theorem dX4_lookAtFile_35 : decode cX4_lookAtFile 35 = .ok (.iload_n 1, 1) := by decide +kernel
theorem dX4_lookAtFile_36 : decode cX4_lookAtFile 36 = .ok (.invokevirtual 144, 3) := by decide +kernel
theorem dX4_lookAtFile_39 : decode cX4_lookAtFile 39 = .ok (.if_icmp .eq 62, 3) := by decide +kernel
theorem dX4_lookAtFile_42 : decode cX4_lookAtFile 42 = .ok (.aload_n 0, 1) := by decide +kernel
theorem dX4_lookAtFile_43 : decode cX4_lookAtFile 43 = .ok (.getfield 25, 3) := by decide +kernel
theorem dX4_lookAtFile_46 : decode cX4_lookAtFile 46 = .ok (.iload_n 1, 1) := by decide +kernel
theorem dX4_lookAtFile_47 : decode cX4_lookAtFile 47 = .ok (.invokevirtual 145, 3) := by decide +kernel
theorem dX4_lookAtFile_50 : decode cX4_lookAtFile 50 = .ok (.istore 4, 2) := by decide +kernel
theorem dX4_lookAtFile_52 : decode cX4_lookAtFile 52 = .ok (.iload_n 3, 1) := by decide +kernel
theorem dX4_lookAtFile_53 : decode cX4_lookAtFile 53 = .ok (.iload 4, 2) := by decide +kernel
theorem dX4_lookAtFile_55 : decode cX4_lookAtFile 55 = .ok (.iadd, 1) := by decide +kernel
theorem dX4_lookAtFile_56 : decode cX4_lookAtFile 56 = .ok (.istore_n 3, 1) := by decide +kernel
theorem dX4_lookAtFile_57 : decode cX4_lookAtFile 57 = .ok (.iload_n 3, 1) := by decide +kernel
theorem dX4_lookAtFile_58 : decode cX4_lookAtFile 58 = .ok (.iload_n 2, 1) := by decide +kernel
theorem dX4_lookAtFile_59 : decode cX4_lookAtFile 59 = .ok (.if_icmp .le 5, 3) := by decide +kernel
theorem dX4_lookAtFile_62 : decode cX4_lookAtFile 62 = .ok (.iconst 0, 1) := by decide +kernel
theorem dX4_lookAtFile_63 : decode cX4_lookAtFile 63 = .ok (.ireturn, 1) := by decide +kernel
theorem dX4_lookAtFile_64 : decode cX4_lookAtFile 64 = .ok (.aload_n 0, 1) := by decide +kernel
theorem dX4_lookAtFile_65 : decode cX4_lookAtFile 65 = .ok (.getfield 33, 3) := by decide +kernel
theorem dX4_lookAtFile_68 : decode cX4_lookAtFile 68 = .ok (.aload_n 0, 1) := by decide +kernel
theorem dX4_lookAtFile_69 : decode cX4_lookAtFile 69 = .ok (.getfield 25, 3) := by decide +kernel
theorem dX4_lookAtFile_72 : decode cX4_lookAtFile 72 = .ok (.iload_n 1, 1) := by decide +kernel
theorem dX4_lookAtFile_73 : decode cX4_lookAtFile 73 = .ok (.invokevirtual 148, 3) := by decide +kernel
theorem dX4_lookAtFile_76 : decode cX4_lookAtFile 76 = .ok (.iload 4, 2) := by decide +kernel
theorem dX4_lookAtFile_78 : decode cX4_lookAtFile 78 = .ok (.aload_n 0, 1) := by decide +kernel
theorem dX4_lookAtFile_79 : decode cX4_lookAtFile 79 = .ok (.getfield 37, 3) := by decide +kernel
theorem dX4_lookAtFile_82 : decode cX4_lookAtFile 82 = .ok (.iload_n 1, 1) := by decide +kernel
theorem dX4_lookAtFile_83 : decode cX4_lookAtFile 83 = .ok (.invokevirtual 152, 3) := by decide +kernel
theorem dX4_lookAtFile_86 : decode cX4_lookAtFile 86 = .ok (.invokevirtual 155, 3) := by decide +kernel
theorem dX4_lookAtFile_89 : decode cX4_lookAtFile 89 = .ok (.istore 5, 2) := by decide +kernel
theorem dX4_lookAtFile_91 : decode cX4_lookAtFile 91 = .ok (.aload_n 0, 1) := by decide +kernel
theorem dX4_lookAtFile_92 : decode cX4_lookAtFile 92 = .ok (.getfield 37, 3) := by decide +kernel
theorem dX4_lookAtFile_95 : decode cX4_lookAtFile 95 = .ok (.iload_n 1, 1) := by decide +kernel
theorem dX4_lookAtFile_96 : decode cX4_lookAtFile 96 = .ok (.iload 5, 2) := by decide +kernel
theorem dX4_lookAtFile_98 : decode cX4_lookAtFile 98 = .ok (.invokevirtual 161, 3) := by decide +kernel
theorem dX4_lookAtFile_101 : decode cX4_lookAtFile 101 = .ok (.aload_n 0, 1) := by decide +kernel
theorem dX4_lookAtFile_102 : decode cX4_lookAtFile 102 = .ok (.getfield 37, 3) := by decide +kernel
theorem dX4_lookAtFile_105 : decode cX4_lookAtFile 105 = .ok (.iload_n 1, 1) := by decide +kernel
theorem dX4_lookAtFile_106 : decode cX4_lookAtFile 106 = .ok (.invokevirtual 164, 3) := by decide +kernel
theorem dX4_lookAtFile_109 : decode cX4_lookAtFile 109 = .ok (.aload_n 0, 1) := by decide +kernel
theorem dX4_lookAtFile_110 : decode cX4_lookAtFile 110 = .ok (.getfield 12, 3) := by decide +kernel
theorem dX4_lookAtFile_113 : decode cX4_lookAtFile 113 = .ok (.iload_n 1, 1) := by decide +kernel
theorem dX4_lookAtFile_114 : decode cX4_lookAtFile 114 = .ok (.invokevirtual 127, 3) := by decide +kernel
theorem dX4_lookAtFile_117 : decode cX4_lookAtFile 117 = .ok (.iload_n 3, 1) := by decide +kernel
theorem dX4_lookAtFile_118 : decode cX4_lookAtFile 118 = .ok (.ireturn, 1) := by decide +kernel
theorem dX4_lookAtFolder_0 : decode cX4_lookAtFolder 0 = .ok (.aload_n 0, 1) := by decide +kernel
theorem dX4_lookAtFolder_1 : decode cX4_lookAtFolder 1 = .ok (.getfield 37, 3) := by decide +kernel
theorem dX4_lookAtFolder_4 : decode cX4_lookAtFolder 4 = .ok (.iload_n 1, 1) := by decide +kernel
theorem dX4_lookAtFolder_5 : decode cX4_lookAtFolder 5 = .ok (.invokevirtual 164, 3) := by decide +kernel
theorem dX4_lookAtFolder_8 : decode cX4_lookAtFolder 8 = .ok (.iconst 0, 1) := by decide +kernel
theorem dX4_lookAtFolder_9 : decode cX4_lookAtFolder 9 = .ok (.istore_n 2, 1) := by decide +kernel
theorem dX4_lookAtFolder_10 : decode cX4_lookAtFolder 10 = .ok (.iload_n 2, 1) := by decide +kernel
theorem dX4_lookAtFolder_11 : decode cX4_lookAtFolder 11 = .ok (.bipush 60, 2) := by decide +kernel
theorem dX4_lookAtFolder_13 : decode cX4_lookAtFolder 13 = .ok (.if_icmp .ge 30, 3) := by decide +kernel
theorem dX4_lookAtFolder_16 : decode cX4_lookAtFolder 16 = .ok (.aload_n 0, 1) := by decide +kernel
theorem dX4_lookAtFolder_17 : decode cX4_lookAtFolder 17 = .ok (.getfield 25, 3) := by decide +kernel
theorem dX4_lookAtFolder_20 : decode cX4_lookAtFolder 20 = .ok (.iload_n 2, 1) := by decide +kernel
theorem dX4_lookAtFolder_21 : decode cX4_lookAtFolder 21 = .ok (.invokevirtual 167, 3) := by decide +kernel
theorem dX4_lookAtFolder_24 : decode cX4_lookAtFolder 24 = .ok (.iload_n 1, 1) := by decide +kernel
theorem dX4_lookAtFolder_25 : decode cX4_lookAtFolder 25 = .ok (.if_icmp .ne 12, 3) := by decide +kernel
theorem dX4_lookAtFolder_28 : decode cX4_lookAtFolder 28 = .ok (.aload_n 0, 1) := by decide +kernel
theorem dX4_lookAtFolder_29 : decode cX4_lookAtFolder 29 = .ok (.getfield 12, 3) := by decide +kernel
theorem dX4_lookAtFolder_32 : decode cX4_lookAtFolder 32 = .ok (.iload_n 2, 1) := by decide +kernel
theorem dX4_lookAtFolder_33 : decode cX4_lookAtFolder 33 = .ok (.iconst 1, 1) := by decide +kernel
theorem dX4_lookAtFolder_34 : decode cX4_lookAtFolder 34 = .ok (.invokevirtual 55, 3) := by decide +kernel
theorem dX4_lookAtFolder_37 : decode cX4_lookAtFolder 37 = .ok (.iinc 2 1, 3) := by decide +kernel
theorem dX4_lookAtFolder_40 : decode cX4_lookAtFolder 40 = .ok (.goto (-30), 3) := by decide +kernel
theorem dX4_lookAtFolder_43 : decode cX4_lookAtFolder 43 = .ok (.return_, 1) := by decide +kernel
theorem dX4_crawlOn_0 : decode cX4_crawlOn 0 = .ok (.aload_n 1, 1) := by decide +kernel
theorem dX4_crawlOn_1 : decode cX4_crawlOn 1 = .ok (.getfield 170, 3) := by decide +kernel
theorem dX4_crawlOn_4 : decode cX4_crawlOn 4 = .ok (.astore_n 2, 1) := by decide +kernel
theorem dX4_crawlOn_5 : decode cX4_crawlOn 5 = .ok (.aload_n 2, 1) := by decide +kernel
theorem dX4_crawlOn_6 : decode cX4_crawlOn 6 = .ok (.invokevirtual 174, 3) := by decide +kernel
theorem dX4_crawlOn_9 : decode cX4_crawlOn 9 = .ok (.istore_n 3, 1) := by decide +kernel
theorem dX4_crawlOn_10 : decode cX4_crawlOn 10 = .ok (.iload_n 3, 1) := by decide +kernel
theorem dX4_crawlOn_11 : decode cX4_crawlOn 11 = .ok (.aload_n 1, 1) := by decide +kernel
theorem dX4_crawlOn_12 : decode cX4_crawlOn 12 = .ok (.getfield 178, 3) := by decide +kernel
theorem dX4_crawlOn_15 : decode cX4_crawlOn 15 = .ok (.if_icmp .eq 18, 3) := by decide +kernel
theorem dX4_crawlOn_18 : decode cX4_crawlOn 18 = .ok (.aload_n 0, 1) := by decide +kernel
theorem dX4_crawlOn_19 : decode cX4_crawlOn 19 = .ok (.getfield 25, 3) := by decide +kernel
theorem dX4_crawlOn_22 : decode cX4_crawlOn 22 = .ok (.iload_n 3, 1) := by decide +kernel
theorem dX4_crawlOn_23 : decode cX4_crawlOn 23 = .ok (.aload_n 1, 1) := by decide +kernel
theorem dX4_crawlOn_24 : decode cX4_crawlOn 24 = .ok (.getfield 178, 3) := by decide +kernel
theorem dX4_crawlOn_27 : decode cX4_crawlOn 27 = .ok (.invokevirtual 182, 3) := by decide +kernel
theorem dX4_crawlOn_30 : decode cX4_crawlOn 30 = .ok (.ifCond .eq 9, 3) := by decide +kernel
theorem dX4_crawlOn_33 : decode cX4_crawlOn 33 = .ok (.aload_n 0, 1) := by decide +kernel
theorem dX4_crawlOn_34 : decode cX4_crawlOn 34 = .ok (.iload_n 3, 1) := by decide +kernel
theorem dX4_crawlOn_35 : decode cX4_crawlOn 35 = .ok (.aload_n 2, 1) := by decide +kernel
theorem dX4_crawlOn_36 : decode cX4_crawlOn 36 = .ok (.invokevirtual 186, 3) := by decide +kernel
theorem dX4_crawlOn_39 : decode cX4_crawlOn 39 = .ok (.aload_n 2, 1) := by decide +kernel
theorem dX4_crawlOn_40 : decode cX4_crawlOn 40 = .ok (.getfield 190, 3) := by decide +kernel
theorem dX4_crawlOn_43 : decode cX4_crawlOn 43 = .ok (.ifCond .ne 13, 3) := by decide +kernel
theorem dX4_crawlOn_46 : decode cX4_crawlOn 46 = .ok (.aload_n 2, 1) := by decide +kernel
theorem dX4_crawlOn_47 : decode cX4_crawlOn 47 = .ok (.iconst 0, 1) := by decide +kernel
theorem dX4_crawlOn_48 : decode cX4_crawlOn 48 = .ok (.putfield 193, 3) := by decide +kernel
theorem dX4_crawlOn_51 : decode cX4_crawlOn 51 = .ok (.aload_n 0, 1) := by decide +kernel
theorem dX4_crawlOn_52 : decode cX4_crawlOn 52 = .ok (.aload_n 2, 1) := by decide +kernel
theorem dX4_crawlOn_53 : decode cX4_crawlOn 53 = .ok (.invokevirtual 196, 3) := by decide +kernel
theorem dX4_crawlOn_56 : decode cX4_crawlOn 56 = .ok (.return_, 1) := by decide +kernel
theorem dX4_meetAllIn_0 : decode cX4_meetAllIn 0 = .ok (.iconst 0, 1) := by decide +kernel
theorem dX4_meetAllIn_1 : decode cX4_meetAllIn 1 = .ok (.istore_n 3, 1) := by decide +kernel
theorem dX4_meetAllIn_2 : decode cX4_meetAllIn 2 = .ok (.iload_n 3, 1) := by decide +kernel
theorem dX4_meetAllIn_3 : decode cX4_meetAllIn 3 = .ok (.bipush 60, 2) := by decide +kernel
theorem dX4_meetAllIn_5 : decode cX4_meetAllIn 5 = .ok (.if_icmp .ge 67, 3) := by decide +kernel
theorem dX4_meetAllIn_8 : decode cX4_meetAllIn 8 = .ok (.iload_n 1, 1) := by decide +kernel
theorem dX4_meetAllIn_9 : decode cX4_meetAllIn 9 = .ok (.iconst (-1), 1) := by decide +kernel
theorem dX4_meetAllIn_10 : decode cX4_meetAllIn 10 = .ok (.if_icmp .eq 56, 3) := by decide +kernel
theorem dX4_meetAllIn_13 : decode cX4_meetAllIn 13 = .ok (.aload_n 0, 1) := by decide +kernel
theorem dX4_meetAllIn_14 : decode cX4_meetAllIn 14 = .ok (.getfield 25, 3) := by decide +kernel
theorem dX4_meetAllIn_17 : decode cX4_meetAllIn 17 = .ok (.iload_n 3, 1) := by decide +kernel
theorem dX4_meetAllIn_18 : decode cX4_meetAllIn 18 = .ok (.invokevirtual 167, 3) := by decide +kernel
theorem dX4_meetAllIn_21 : decode cX4_meetAllIn 21 = .ok (.iload_n 1, 1) := by decide +kernel
theorem dX4_meetAllIn_22 : decode cX4_meetAllIn 22 = .ok (.if_icmp .ne 44, 3) := by decide +kernel
theorem dX4_meetAllIn_25 : decode cX4_meetAllIn 25 = .ok (.aload_n 2, 1) := by decide +kernel
theorem dX4_meetAllIn_26 : decode cX4_meetAllIn 26 = .ok (.iload_n 3, 1) := by decide +kernel
theorem dX4_meetAllIn_27 : decode cX4_meetAllIn 27 = .ok (.invokevirtual 200, 3) := by decide +kernel
theorem dX4_meetAllIn_30 : decode cX4_meetAllIn 30 = .ok (.aload_n 0, 1) := by decide +kernel
theorem dX4_meetAllIn_31 : decode cX4_meetAllIn 31 = .ok (.getfield 37, 3) := by decide +kernel
theorem dX4_meetAllIn_34 : decode cX4_meetAllIn 34 = .ok (.iload_n 3, 1) := by decide +kernel
theorem dX4_meetAllIn_35 : decode cX4_meetAllIn 35 = .ok (.invokevirtual 203, 3) := by decide +kernel
theorem dX4_meetAllIn_38 : decode cX4_meetAllIn 38 = .ok (.ifCond .eq 12, 3) := by decide +kernel
theorem dX4_meetAllIn_41 : decode cX4_meetAllIn 41 = .ok (.aload_n 0, 1) := by decide +kernel
theorem dX4_meetAllIn_42 : decode cX4_meetAllIn 42 = .ok (.getfield 12, 3) := by decide +kernel
theorem dX4_meetAllIn_45 : decode cX4_meetAllIn 45 = .ok (.iload_n 3, 1) := by decide +kernel
theorem dX4_meetAllIn_46 : decode cX4_meetAllIn 46 = .ok (.iconst 1, 1) := by decide +kernel
theorem dX4_meetAllIn_47 : decode cX4_meetAllIn 47 = .ok (.invokevirtual 55, 3) := by decide +kernel
theorem dX4_meetAllIn_50 : decode cX4_meetAllIn 50 = .ok (.aload_n 0, 1) := by decide +kernel
theorem dX4_meetAllIn_51 : decode cX4_meetAllIn 51 = .ok (.getfield 25, 3) := by decide +kernel
theorem dX4_meetAllIn_54 : decode cX4_meetAllIn 54 = .ok (.iload_n 3, 1) := by decide +kernel
theorem dX4_meetAllIn_55 : decode cX4_meetAllIn 55 = .ok (.invokevirtual 206, 3) := by decide +kernel
theorem dX4_meetAllIn_58 : decode cX4_meetAllIn 58 = .ok (.ifCond .eq 8, 3) := by decide +kernel
theorem dX4_meetAllIn_61 : decode cX4_meetAllIn 61 = .ok (.aload_n 2, 1) := by decide +kernel
theorem dX4_meetAllIn_62 : decode cX4_meetAllIn 62 = .ok (.iload_n 3, 1) := by decide +kernel
theorem dX4_meetAllIn_63 : decode cX4_meetAllIn 63 = .ok (.invokevirtual 209, 3) := by decide +kernel
theorem dX4_meetAllIn_66 : decode cX4_meetAllIn 66 = .ok (.iinc 3 1, 3) := by decide +kernel
theorem dX4_meetAllIn_69 : decode cX4_meetAllIn 69 = .ok (.goto (-67), 3) := by decide +kernel
theorem dX4_meetAllIn_72 : decode cX4_meetAllIn 72 = .ok (.return_, 1) := by decide +kernel
theorem dX4_lookAtUnmet_0 : decode cX4_lookAtUnmet 0 = .ok (.iconst 0, 1) := by decide +kernel
theorem dX4_lookAtUnmet_1 : decode cX4_lookAtUnmet 1 = .ok (.istore_n 2, 1) := by decide +kernel
theorem dX4_lookAtUnmet_2 : decode cX4_lookAtUnmet 2 = .ok (.iload_n 2, 1) := by decide +kernel
theorem dX4_lookAtUnmet_3 : decode cX4_lookAtUnmet 3 = .ok (.bipush 60, 2) := by decide +kernel
theorem dX4_lookAtUnmet_5 : decode cX4_lookAtUnmet 5 = .ok (.if_icmp .ge 37, 3) := by decide +kernel
theorem dX4_lookAtUnmet_8 : decode cX4_lookAtUnmet 8 = .ok (.aload_n 0, 1) := by decide +kernel
theorem dX4_lookAtUnmet_9 : decode cX4_lookAtUnmet 9 = .ok (.getfield 37, 3) := by decide +kernel
theorem dX4_lookAtUnmet_12 : decode cX4_lookAtUnmet 12 = .ok (.iload_n 2, 1) := by decide +kernel
theorem dX4_lookAtUnmet_13 : decode cX4_lookAtUnmet 13 = .ok (.invokevirtual 49, 3) := by decide +kernel
theorem dX4_lookAtUnmet_16 : decode cX4_lookAtUnmet 16 = .ok (.ifCond .eq 20, 3) := by decide +kernel
theorem dX4_lookAtUnmet_19 : decode cX4_lookAtUnmet 19 = .ok (.aload_n 1, 1) := by decide +kernel
theorem dX4_lookAtUnmet_20 : decode cX4_lookAtUnmet 20 = .ok (.iload_n 2, 1) := by decide +kernel
theorem dX4_lookAtUnmet_21 : decode cX4_lookAtUnmet 21 = .ok (.invokevirtual 212, 3) := by decide +kernel
theorem dX4_lookAtUnmet_24 : decode cX4_lookAtUnmet 24 = .ok (.ifCond .ne 12, 3) := by decide +kernel
theorem dX4_lookAtUnmet_27 : decode cX4_lookAtUnmet 27 = .ok (.aload_n 0, 1) := by decide +kernel
theorem dX4_lookAtUnmet_28 : decode cX4_lookAtUnmet 28 = .ok (.getfield 12, 3) := by decide +kernel
theorem dX4_lookAtUnmet_31 : decode cX4_lookAtUnmet 31 = .ok (.iload_n 2, 1) := by decide +kernel
theorem dX4_lookAtUnmet_32 : decode cX4_lookAtUnmet 32 = .ok (.iconst 1, 1) := by decide +kernel
theorem dX4_lookAtUnmet_33 : decode cX4_lookAtUnmet 33 = .ok (.invokevirtual 55, 3) := by decide +kernel
theorem dX4_lookAtUnmet_36 : decode cX4_lookAtUnmet 36 = .ok (.iinc 2 1, 3) := by decide +kernel
theorem dX4_lookAtUnmet_39 : decode cX4_lookAtUnmet 39 = .ok (.goto (-37), 3) := by decide +kernel
theorem dX4_lookAtUnmet_42 : decode cX4_lookAtUnmet 42 = .ok (.return_, 1) := by decide +kernel
theorem dX5_count_0 : decode cX5_count 0 = .ok (.iconst 0, 1) := by decide +kernel
theorem dX5_count_1 : decode cX5_count 1 = .ok (.istore 5, 2) := by decide +kernel
theorem dX5_count_3 : decode cX5_count 3 = .ok (.iconst 0, 1) := by decide +kernel
theorem dX5_count_4 : decode cX5_count 4 = .ok (.istore 6, 2) := by decide +kernel
theorem dX5_count_6 : decode cX5_count 6 = .ok (.iload 6, 2) := by decide +kernel
theorem dX5_count_8 : decode cX5_count 8 = .ok (.bipush 60, 2) := by decide +kernel
theorem dX5_count_10 : decode cX5_count 10 = .ok (.if_icmp .ge 56, 3) := by decide +kernel
theorem dX5_count_13 : decode cX5_count 13 = .ok (.iload 4, 2) := by decide +kernel
theorem dX5_count_15 : decode cX5_count 15 = .ok (.iconst (-1), 1) := by decide +kernel
theorem dX5_count_16 : decode cX5_count 16 = .ok (.if_icmp .eq 17, 3) := by decide +kernel
theorem dX5_count_19 : decode cX5_count 19 = .ok (.aload_n 0, 1) := by decide +kernel
theorem dX5_count_20 : decode cX5_count 20 = .ok (.getfield 30, 3) := by decide +kernel
theorem dX5_count_23 : decode cX5_count 23 = .ok (.iload 6, 2) := by decide +kernel
theorem dX5_count_25 : decode cX5_count 25 = .ok (.iload 4, 2) := by decide +kernel
theorem dX5_count_27 : decode cX5_count 27 = .ok (.invokevirtual 34, 3) := by decide +kernel
theorem dX5_count_30 : decode cX5_count 30 = .ok (.ifCond .eq 7, 3) := by decide +kernel
theorem dX5_count_33 : decode cX5_count 33 = .ok (.iconst 1, 1) := by decide +kernel
theorem dX5_count_34 : decode cX5_count 34 = .ok (.goto 4, 3) := by decide +kernel
theorem dX5_count_37 : decode cX5_count 37 = .ok (.iconst 0, 1) := by decide +kernel
theorem dX5_count_38 : decode cX5_count 38 = .ok (.istore 7, 2) := by decide +kernel
theorem dX5_count_40 : decode cX5_count 40 = .ok (.iload 7, 2) := by decide +kernel
theorem dX5_count_42 : decode cX5_count 42 = .ok (.ifCond .eq 18, 3) := by decide +kernel
theorem dX5_count_45 : decode cX5_count 45 = .ok (.aload_n 0, 1) := by decide +kernel
theorem dX5_count_46 : decode cX5_count 46 = .ok (.iload_n 1, 1) := by decide +kernel
theorem dX5_count_47 : decode cX5_count 47 = .ok (.iload 6, 2) := by decide +kernel
theorem dX5_count_49 : decode cX5_count 49 = .ok (.iload_n 2, 1) := by decide +kernel
theorem dX5_count_50 : decode cX5_count 50 = .ok (.iload_n 3, 1) := by decide +kernel
theorem dX5_count_51 : decode cX5_count 51 = .ok (.invokevirtual 40, 3) := by decide +kernel
theorem dX5_count_54 : decode cX5_count 54 = .ok (.ifCond .le 6, 3) := by decide +kernel
theorem dX5_count_57 : decode cX5_count 57 = .ok (.iinc 5 1, 3) := by decide +kernel
theorem dX5_count_60 : decode cX5_count 60 = .ok (.iinc 6 1, 3) := by decide +kernel
theorem dX5_count_63 : decode cX5_count 63 = .ok (.goto (-57), 3) := by decide +kernel
theorem dX5_count_66 : decode cX5_count 66 = .ok (.iload 5, 2) := by decide +kernel
theorem dX5_count_68 : decode cX5_count 68 = .ok (.ireturn, 1) := by decide +kernel
theorem dX5_countAnew_0 : decode cX5_countAnew 0 = .ok (.iconst 0, 1) := by decide +kernel
theorem dX5_countAnew_1 : decode cX5_countAnew 1 = .ok (.istore 5, 2) := by decide +kernel
theorem dX5_countAnew_3 : decode cX5_countAnew 3 = .ok (.iconst 0, 1) := by decide +kernel
theorem dX5_countAnew_4 : decode cX5_countAnew 4 = .ok (.istore 6, 2) := by decide +kernel
theorem dX5_countAnew_6 : decode cX5_countAnew 6 = .ok (.iload 6, 2) := by decide +kernel
theorem dX5_countAnew_8 : decode cX5_countAnew 8 = .ok (.bipush 60, 2) := by decide +kernel
theorem dX5_countAnew_10 : decode cX5_countAnew 10 = .ok (.if_icmp .ge 93, 3) := by decide +kernel
theorem dX5_countAnew_13 : decode cX5_countAnew 13 = .ok (.aload_n 0, 1) := by decide +kernel
theorem dX5_countAnew_14 : decode cX5_countAnew 14 = .ok (.getfield 18, 3) := by decide +kernel
theorem dX5_countAnew_17 : decode cX5_countAnew 17 = .ok (.iload 6, 2) := by decide +kernel
theorem dX5_countAnew_19 : decode cX5_countAnew 19 = .ok (.invokevirtual 44, 3) := by decide +kernel
theorem dX5_countAnew_22 : decode cX5_countAnew 22 = .ok (.ifCond .eq 75, 3) := by decide +kernel
theorem dX5_countAnew_25 : decode cX5_countAnew 25 = .ok (.aload_n 0, 1) := by decide +kernel
theorem dX5_countAnew_26 : decode cX5_countAnew 26 = .ok (.getfield 18, 3) := by decide +kernel
theorem dX5_countAnew_29 : decode cX5_countAnew 29 = .ok (.iload_n 1, 1) := by decide +kernel
theorem dX5_countAnew_30 : decode cX5_countAnew 30 = .ok (.iload 6, 2) := by decide +kernel
theorem dX5_countAnew_32 : decode cX5_countAnew 32 = .ok (.invokevirtual 50, 3) := by decide +kernel
theorem dX5_countAnew_35 : decode cX5_countAnew 35 = .ok (.ifCond .eq 62, 3) := by decide +kernel
theorem dX5_countAnew_38 : decode cX5_countAnew 38 = .ok (.aload_n 0, 1) := by decide +kernel
theorem dX5_countAnew_39 : decode cX5_countAnew 39 = .ok (.iload 6, 2) := by decide +kernel
theorem dX5_countAnew_41 : decode cX5_countAnew 41 = .ok (.iload 4, 2) := by decide +kernel
theorem dX5_countAnew_43 : decode cX5_countAnew 43 = .ok (.invokevirtual 53, 3) := by decide +kernel
theorem dX5_countAnew_46 : decode cX5_countAnew 46 = .ok (.ifCond .eq 51, 3) := by decide +kernel
theorem dX5_countAnew_49 : decode cX5_countAnew 49 = .ok (.aload_n 0, 1) := by decide +kernel
theorem dX5_countAnew_50 : decode cX5_countAnew 50 = .ok (.getfield 26, 3) := by decide +kernel
theorem dX5_countAnew_53 : decode cX5_countAnew 53 = .ok (.aload_n 0, 1) := by decide +kernel
theorem dX5_countAnew_54 : decode cX5_countAnew 54 = .ok (.getfield 18, 3) := by decide +kernel
theorem dX5_countAnew_57 : decode cX5_countAnew 57 = .ok (.iload 6, 2) := by decide +kernel
theorem dX5_countAnew_59 : decode cX5_countAnew 59 = .ok (.invokevirtual 56, 3) := by decide +kernel
theorem dX5_countAnew_62 : decode cX5_countAnew 62 = .ok (.aload_n 0, 1) := by decide +kernel
theorem dX5_countAnew_63 : decode cX5_countAnew 63 = .ok (.getfield 18, 3) := by decide +kernel
theorem dX5_countAnew_66 : decode cX5_countAnew 66 = .ok (.iload 6, 2) := by decide +kernel
theorem dX5_countAnew_68 : decode cX5_countAnew 68 = .ok (.invokevirtual 60, 3) := by decide +kernel
theorem dX5_countAnew_71 : decode cX5_countAnew 71 = .ok (.aload_n 0, 1) := by decide +kernel
theorem dX5_countAnew_72 : decode cX5_countAnew 72 = .ok (.getfield 15, 3) := by decide +kernel
theorem dX5_countAnew_75 : decode cX5_countAnew 75 = .ok (.invokevirtual 64, 3) := by decide +kernel
theorem dX5_countAnew_78 : decode cX5_countAnew 78 = .ok (.istore 7, 2) := by decide +kernel
theorem dX5_countAnew_80 : decode cX5_countAnew 80 = .ok (.aload_n 0, 1) := by decide +kernel
theorem dX5_countAnew_81 : decode cX5_countAnew 81 = .ok (.getfield 15, 3) := by decide +kernel
theorem dX5_countAnew_84 : decode cX5_countAnew 84 = .ok (.iload 7, 2) := by decide +kernel
theorem dX5_countAnew_86 : decode cX5_countAnew 86 = .ok (.iload_n 2, 1) := by decide +kernel
theorem dX5_countAnew_87 : decode cX5_countAnew 87 = .ok (.iload_n 3, 1) := by decide +kernel
theorem dX5_countAnew_88 : decode cX5_countAnew 88 = .ok (.invokestatic 70, 3) := by decide +kernel
theorem dX5_countAnew_91 : decode cX5_countAnew 91 = .ok (.ifCond .le 6, 3) := by decide +kernel
theorem dX5_countAnew_94 : decode cX5_countAnew 94 = .ok (.iinc 5 1, 3) := by decide +kernel
theorem dX5_countAnew_97 : decode cX5_countAnew 97 = .ok (.iinc 6 1, 3) := by decide +kernel
theorem dX5_countAnew_100 : decode cX5_countAnew 100 = .ok (.goto (-94), 3) := by decide +kernel
theorem dX5_countAnew_103 : decode cX5_countAnew 103 = .ok (.iload 5, 2) := by decide +kernel
theorem dX5_countAnew_105 : decode cX5_countAnew 105 = .ok (.ireturn, 1) := by decide +kernel
theorem dX5_fileAt_0 : decode cX5_fileAt 0 = .ok (.iconst 0, 1) := by decide +kernel
theorem dX5_fileAt_1 : decode cX5_fileAt 1 = .ok (.istore 5, 2) := by decide +kernel
theorem dX5_fileAt_3 : decode cX5_fileAt 3 = .ok (.iload 5, 2) := by decide +kernel
theorem dX5_fileAt_5 : decode cX5_fileAt 5 = .ok (.bipush 60, 2) := by decide +kernel
theorem dX5_fileAt_7 : decode cX5_fileAt 7 = .ok (.if_icmp .ge 25, 3) := by decide +kernel
theorem dX5_fileAt_10 : decode cX5_fileAt 10 = .ok (.aload_n 0, 1) := by decide +kernel
theorem dX5_fileAt_11 : decode cX5_fileAt 11 = .ok (.getfield 9, 3) := by decide +kernel
theorem dX5_fileAt_14 : decode cX5_fileAt 14 = .ok (.iload 5, 2) := by decide +kernel
theorem dX5_fileAt_16 : decode cX5_fileAt 16 = .ok (.aload_n 0, 1) := by decide +kernel
theorem dX5_fileAt_17 : decode cX5_fileAt 17 = .ok (.iload_n 1, 1) := by decide +kernel
theorem dX5_fileAt_18 : decode cX5_fileAt 18 = .ok (.iload 5, 2) := by decide +kernel
theorem dX5_fileAt_20 : decode cX5_fileAt 20 = .ok (.iload_n 2, 1) := by decide +kernel
theorem dX5_fileAt_21 : decode cX5_fileAt 21 = .ok (.iload_n 3, 1) := by decide +kernel
theorem dX5_fileAt_22 : decode cX5_fileAt 22 = .ok (.invokevirtual 40, 3) := by decide +kernel
theorem dX5_fileAt_25 : decode cX5_fileAt 25 = .ok (.iastore, 1) := by decide +kernel
theorem dX5_fileAt_26 : decode cX5_fileAt 26 = .ok (.iinc 5 1, 3) := by decide +kernel
theorem dX5_fileAt_29 : decode cX5_fileAt 29 = .ok (.goto (-26), 3) := by decide +kernel
theorem dX5_fileAt_32 : decode cX5_fileAt 32 = .ok (.iconst 0, 1) := by decide +kernel
theorem dX5_fileAt_33 : decode cX5_fileAt 33 = .ok (.istore 5, 2) := by decide +kernel
theorem dX5_fileAt_35 : decode cX5_fileAt 35 = .ok (.iload 5, 2) := by decide +kernel
theorem dX5_fileAt_37 : decode cX5_fileAt 37 = .ok (.bipush 60, 2) := by decide +kernel
theorem dX5_fileAt_39 : decode cX5_fileAt 39 = .ok (.if_icmp .ge 44, 3) := by decide +kernel
theorem dX5_fileAt_42 : decode cX5_fileAt 42 = .ok (.aload_n 0, 1) := by decide +kernel
theorem dX5_fileAt_43 : decode cX5_fileAt 43 = .ok (.getfield 9, 3) := by decide +kernel
theorem dX5_fileAt_46 : decode cX5_fileAt 46 = .ok (.iload 5, 2) := by decide +kernel
theorem dX5_fileAt_48 : decode cX5_fileAt 48 = .ok (.iaload, 1) := by decide +kernel
theorem dX5_fileAt_49 : decode cX5_fileAt 49 = .ok (.ifCond .le 28, 3) := by decide +kernel
theorem dX5_fileAt_52 : decode cX5_fileAt 52 = .ok (.aload_n 0, 1) := by decide +kernel
theorem dX5_fileAt_53 : decode cX5_fileAt 53 = .ok (.iload 5, 2) := by decide +kernel
theorem dX5_fileAt_55 : decode cX5_fileAt 55 = .ok (.invokevirtual 74, 3) := by decide +kernel
theorem dX5_fileAt_58 : decode cX5_fileAt 58 = .ok (.iload 4, 2) := by decide +kernel
theorem dX5_fileAt_60 : decode cX5_fileAt 60 = .ok (.if_icmp .ne 17, 3) := by decide +kernel
theorem dX5_fileAt_63 : decode cX5_fileAt 63 = .ok (.bipush 100, 2) := by decide +kernel
theorem dX5_fileAt_65 : decode cX5_fileAt 65 = .ok (.aload_n 0, 1) := by decide +kernel
theorem dX5_fileAt_66 : decode cX5_fileAt 66 = .ok (.getfield 9, 3) := by decide +kernel
theorem dX5_fileAt_69 : decode cX5_fileAt 69 = .ok (.iload 5, 2) := by decide +kernel
theorem dX5_fileAt_71 : decode cX5_fileAt 71 = .ok (.iaload, 1) := by decide +kernel
theorem dX5_fileAt_72 : decode cX5_fileAt 72 = .ok (.imul, 1) := by decide +kernel
theorem dX5_fileAt_73 : decode cX5_fileAt 73 = .ok (.iload 5, 2) := by decide +kernel
theorem dX5_fileAt_75 : decode cX5_fileAt 75 = .ok (.iadd, 1) := by decide +kernel
theorem dX5_fileAt_76 : decode cX5_fileAt 76 = .ok (.ireturn, 1) := by decide +kernel
theorem dX5_fileAt_77 : decode cX5_fileAt 77 = .ok (.iinc 5 1, 3) := by decide +kernel
theorem dX5_fileAt_80 : decode cX5_fileAt 80 = .ok (.goto (-45), 3) := by decide +kernel
theorem dX5_fileAt_83 : decode cX5_fileAt 83 = .ok (.iconst (-1), 1) := by decide +kernel
theorem dX5_fileAt_84 : decode cX5_fileAt 84 = .ok (.ireturn, 1) := by decide +kernel
theorem dX5_closestPlaces_0 : decode cX5_closestPlaces 0 = .ok (.aload_n 0, 1) := by decide +kernel
theorem dX5_closestPlaces_1 : decode cX5_closestPlaces 1 = .ok (.getfield 30, 3) := by decide +kernel
theorem dX5_closestPlaces_4 : decode cX5_closestPlaces 4 = .ok (.iload_n 1, 1) := by decide +kernel
theorem dX5_closestPlaces_5 : decode cX5_closestPlaces 5 = .ok (.invokevirtual 77, 3) := by decide +kernel
theorem dX5_closestPlaces_8 : decode cX5_closestPlaces 8 = .ok (.astore 4, 2) := by decide +kernel
theorem dX5_closestPlaces_10 : decode cX5_closestPlaces 10 = .ok (.aload_n 0, 1) := by decide +kernel
theorem dX5_closestPlaces_11 : decode cX5_closestPlaces 11 = .ok (.getfield 30, 3) := by decide +kernel
theorem dX5_closestPlaces_14 : decode cX5_closestPlaces 14 = .ok (.iload_n 1, 1) := by decide +kernel
theorem dX5_closestPlaces_15 : decode cX5_closestPlaces 15 = .ok (.invokevirtual 80, 3) := by decide +kernel
theorem dX5_closestPlaces_18 : decode cX5_closestPlaces 18 = .ok (.aload 4, 2) := by decide +kernel
theorem dX5_closestPlaces_20 : decode cX5_closestPlaces 20 = .ok (.arraylength, 1) := by decide +kernel
theorem dX5_closestPlaces_21 : decode cX5_closestPlaces 21 = .ok (.invokestatic 81, 3) := by decide +kernel
theorem dX5_closestPlaces_24 : decode cX5_closestPlaces 24 = .ok (.istore 5, 2) := by decide +kernel
theorem dX5_closestPlaces_26 : decode cX5_closestPlaces 26 = .ok (.iconst (-1), 1) := by decide +kernel
theorem dX5_closestPlaces_27 : decode cX5_closestPlaces 27 = .ok (.istore 6, 2) := by decide +kernel
theorem dX5_closestPlaces_29 : decode cX5_closestPlaces 29 = .ok (.iconst 0, 1) := by decide +kernel
theorem dX5_closestPlaces_30 : decode cX5_closestPlaces 30 = .ok (.istore 7, 2) := by decide +kernel
theorem dX5_closestPlaces_32 : decode cX5_closestPlaces 32 = .ok (.iconst 0, 1) := by decide +kernel
theorem dX5_closestPlaces_33 : decode cX5_closestPlaces 33 = .ok (.istore 8, 2) := by decide +kernel
theorem dX5_closestPlaces_35 : decode cX5_closestPlaces 35 = .ok (.iconst 0, 1) := by decide +kernel
theorem dX5_closestPlaces_36 : decode cX5_closestPlaces 36 = .ok (.istore 9, 2) := by decide +kernel
theorem dX5_closestPlaces_38 : decode cX5_closestPlaces 38 = .ok (.iload 9, 2) := by decide +kernel
theorem dX5_closestPlaces_40 : decode cX5_closestPlaces 40 = .ok (.iload 5, 2) := by decide +kernel
theorem dX5_closestPlaces_42 : decode cX5_closestPlaces 42 = .ok (.if_icmp .ge 129, 3) := by decide +kernel
theorem dX5_closestPlaces_45 : decode cX5_closestPlaces 45 = .ok (.iconst 0, 1) := by decide +kernel
theorem dX5_closestPlaces_46 : decode cX5_closestPlaces 46 = .ok (.istore 10, 2) := by decide +kernel
theorem dX5_closestPlaces_48 : decode cX5_closestPlaces 48 = .ok (.iload 10, 2) := by decide +kernel
theorem dX5_closestPlaces_50 : decode cX5_closestPlaces 50 = .ok (.iload 5, 2) := by decide +kernel
theorem dX5_closestPlaces_52 : decode cX5_closestPlaces 52 = .ok (.if_icmp .ge 113, 3) := by decide +kernel
theorem dX5_closestPlaces_55 : decode cX5_closestPlaces 55 = .ok (.iload 9, 2) := by decide +kernel
theorem dX5_closestPlaces_57 : decode cX5_closestPlaces 57 = .ok (.iload 10, 2) := by decide +kernel
theorem dX5_closestPlaces_59 : decode cX5_closestPlaces 59 = .ok (.if_icmp .eq 100, 3) := by decide +kernel
theorem dX5_closestPlaces_62 : decode cX5_closestPlaces 62 = .ok (.aload 4, 2) := by decide +kernel
theorem dX5_closestPlaces_64 : decode cX5_closestPlaces 64 = .ok (.iload 9, 2) := by decide +kernel
theorem dX5_closestPlaces_66 : decode cX5_closestPlaces 66 = .ok (.iaload, 1) := by decide +kernel
theorem dX5_closestPlaces_67 : decode cX5_closestPlaces 67 = .ok (.iload_n 2, 1) := by decide +kernel
theorem dX5_closestPlaces_68 : decode cX5_closestPlaces 68 = .ok (.if_icmp .ne 91, 3) := by decide +kernel
theorem dX5_closestPlaces_71 : decode cX5_closestPlaces 71 = .ok (.aload 4, 2) := by decide +kernel
theorem dX5_closestPlaces_73 : decode cX5_closestPlaces 73 = .ok (.iload 10, 2) := by decide +kernel
theorem dX5_closestPlaces_75 : decode cX5_closestPlaces 75 = .ok (.iaload, 1) := by decide +kernel
theorem dX5_closestPlaces_76 : decode cX5_closestPlaces 76 = .ok (.iload_n 3, 1) := by decide +kernel
theorem dX5_closestPlaces_77 : decode cX5_closestPlaces 77 = .ok (.if_icmp .eq 6, 3) := by decide +kernel
theorem dX5_closestPlaces_80 : decode cX5_closestPlaces 80 = .ok (.goto 79, 3) := by decide +kernel
theorem dX5_closestPlaces_83 : decode cX5_closestPlaces 83 = .ok (.iload 9, 2) := by decide +kernel
theorem dX5_closestPlaces_85 : decode cX5_closestPlaces 85 = .ok (.iload 10, 2) := by decide +kernel
theorem dX5_closestPlaces_87 : decode cX5_closestPlaces 87 = .ok (.isub, 1) := by decide +kernel
theorem dX5_closestPlaces_88 : decode cX5_closestPlaces 88 = .ok (.invokestatic 87, 3) := by decide +kernel
theorem dX5_closestPlaces_91 : decode cX5_closestPlaces 91 = .ok (.istore 11, 2) := by decide +kernel
theorem dX5_closestPlaces_93 : decode cX5_closestPlaces 93 = .ok (.iload 9, 2) := by decide +kernel
theorem dX5_closestPlaces_95 : decode cX5_closestPlaces 95 = .ok (.iload 10, 2) := by decide +kernel
theorem dX5_closestPlaces_97 : decode cX5_closestPlaces 97 = .ok (.invokestatic 81, 3) := by decide +kernel
theorem dX5_closestPlaces_100 : decode cX5_closestPlaces 100 = .ok (.istore 12, 2) := by decide +kernel
theorem dX5_closestPlaces_102 : decode cX5_closestPlaces 102 = .ok (.iload 11, 2) := by decide +kernel
theorem dX5_closestPlaces_104 : decode cX5_closestPlaces 104 = .ok (.iload 7, 2) := by decide +kernel
theorem dX5_closestPlaces_106 : decode cX5_closestPlaces 106 = .ok (.if_icmp .lt 17, 3) := by decide +kernel
theorem dX5_closestPlaces_109 : decode cX5_closestPlaces 109 = .ok (.iload 11, 2) := by decide +kernel
theorem dX5_closestPlaces_111 : decode cX5_closestPlaces 111 = .ok (.iload 7, 2) := by decide +kernel
theorem dX5_closestPlaces_113 : decode cX5_closestPlaces 113 = .ok (.if_icmp .ne 14, 3) := by decide +kernel
theorem dX5_closestPlaces_116 : decode cX5_closestPlaces 116 = .ok (.iload 12, 2) := by decide +kernel
theorem dX5_closestPlaces_118 : decode cX5_closestPlaces 118 = .ok (.iload 8, 2) := by decide +kernel
theorem dX5_closestPlaces_120 : decode cX5_closestPlaces 120 = .ok (.if_icmp .ge 7, 3) := by decide +kernel
theorem dX5_closestPlaces_123 : decode cX5_closestPlaces 123 = .ok (.iconst 1, 1) := by decide +kernel
theorem dX5_closestPlaces_124 : decode cX5_closestPlaces 124 = .ok (.goto 4, 3) := by decide +kernel
theorem dX5_closestPlaces_127 : decode cX5_closestPlaces 127 = .ok (.iconst 0, 1) := by decide +kernel
theorem dX5_closestPlaces_128 : decode cX5_closestPlaces 128 = .ok (.istore 13, 2) := by decide +kernel
theorem dX5_closestPlaces_130 : decode cX5_closestPlaces 130 = .ok (.iload 6, 2) := by decide +kernel
theorem dX5_closestPlaces_132 : decode cX5_closestPlaces 132 = .ok (.iconst (-1), 1) := by decide +kernel
theorem dX5_closestPlaces_133 : decode cX5_closestPlaces 133 = .ok (.if_icmp .eq 8, 3) := by decide +kernel
theorem dX5_closestPlaces_136 : decode cX5_closestPlaces 136 = .ok (.iload 13, 2) := by decide +kernel
theorem dX5_closestPlaces_138 : decode cX5_closestPlaces 138 = .ok (.ifCond .eq 21, 3) := by decide +kernel
theorem dX5_closestPlaces_141 : decode cX5_closestPlaces 141 = .ok (.iload 11, 2) := by decide +kernel
theorem dX5_closestPlaces_143 : decode cX5_closestPlaces 143 = .ok (.istore 7, 2) := by decide +kernel
theorem dX5_closestPlaces_145 : decode cX5_closestPlaces 145 = .ok (.iload 12, 2) := by decide +kernel
theorem dX5_closestPlaces_147 : decode cX5_closestPlaces 147 = .ok (.istore 8, 2) := by decide +kernel
theorem dX5_closestPlaces_149 : decode cX5_closestPlaces 149 = .ok (.bipush 100, 2) := by decide +kernel
theorem dX5_closestPlaces_151 : decode cX5_closestPlaces 151 = .ok (.iload 9, 2) := by decide +kernel
theorem dX5_closestPlaces_153 : decode cX5_closestPlaces 153 = .ok (.imul, 1) := by decide +kernel
theorem dX5_closestPlaces_154 : decode cX5_closestPlaces 154 = .ok (.iload 10, 2) := by decide +kernel
theorem dX5_closestPlaces_156 : decode cX5_closestPlaces 156 = .ok (.iadd, 1) := by decide +kernel
theorem dX5_closestPlaces_157 : decode cX5_closestPlaces 157 = .ok (.istore 6, 2) := by decide +kernel
theorem dX5_closestPlaces_159 : decode cX5_closestPlaces 159 = .ok (.iinc 10 1, 3) := by decide +kernel
theorem dX5_closestPlaces_162 : decode cX5_closestPlaces 162 = .ok (.goto (-114), 3) := by decide +kernel
theorem dX5_closestPlaces_165 : decode cX5_closestPlaces 165 = .ok (.iinc 9 1, 3) := by decide +kernel
theorem dX5_closestPlaces_168 : decode cX5_closestPlaces 168 = .ok (.goto (-130), 3) := by decide +kernel
theorem dX5_closestPlaces_171 : decode cX5_closestPlaces 171 = .ok (.iload 6, 2) := by decide +kernel
theorem dX5_closestPlaces_173 : decode cX5_closestPlaces 173 = .ok (.ireturn, 1) := by decide +kernel
theorem dX5_countAhead_0 : decode cX5_countAhead 0 = .ok (.iconst 0, 1) := by decide +kernel
theorem dX5_countAhead_1 : decode cX5_countAhead 1 = .ok (.istore_n 2, 1) := by decide +kernel
theorem dX5_countAhead_2 : decode cX5_countAhead 2 = .ok (.iconst 0, 1) := by decide +kernel
theorem dX5_countAhead_3 : decode cX5_countAhead 3 = .ok (.istore_n 3, 1) := by decide +kernel
theorem dX5_countAhead_4 : decode cX5_countAhead 4 = .ok (.iload_n 3, 1) := by decide +kernel
theorem dX5_countAhead_5 : decode cX5_countAhead 5 = .ok (.bipush 60, 2) := by decide +kernel
theorem dX5_countAhead_7 : decode cX5_countAhead 7 = .ok (.if_icmp .ge 59, 3) := by decide +kernel
theorem dX5_countAhead_10 : decode cX5_countAhead 10 = .ok (.aload_n 0, 1) := by decide +kernel
theorem dX5_countAhead_11 : decode cX5_countAhead 11 = .ok (.getfield 9, 3) := by decide +kernel
theorem dX5_countAhead_14 : decode cX5_countAhead 14 = .ok (.iload_n 3, 1) := by decide +kernel
theorem dX5_countAhead_15 : decode cX5_countAhead 15 = .ok (.iaload, 1) := by decide +kernel
theorem dX5_countAhead_16 : decode cX5_countAhead 16 = .ok (.aload_n 0, 1) := by decide +kernel
theorem dX5_countAhead_17 : decode cX5_countAhead 17 = .ok (.getfield 9, 3) := by decide +kernel
theorem dX5_countAhead_20 : decode cX5_countAhead 20 = .ok (.iload_n 1, 1) := by decide +kernel
theorem dX5_countAhead_21 : decode cX5_countAhead 21 = .ok (.iaload, 1) := by decide +kernel
theorem dX5_countAhead_22 : decode cX5_countAhead 22 = .ok (.if_icmp .le 7, 3) := by decide +kernel
theorem dX5_countAhead_25 : decode cX5_countAhead 25 = .ok (.iconst 1, 1) := by decide +kernel
theorem dX5_countAhead_26 : decode cX5_countAhead 26 = .ok (.goto 4, 3) := by decide +kernel
theorem dX5_countAhead_29 : decode cX5_countAhead 29 = .ok (.iconst 0, 1) := by decide +kernel
theorem dX5_countAhead_30 : decode cX5_countAhead 30 = .ok (.istore 4, 2) := by decide +kernel
theorem dX5_countAhead_32 : decode cX5_countAhead 32 = .ok (.iload 4, 2) := by decide +kernel
theorem dX5_countAhead_34 : decode cX5_countAhead 34 = .ok (.ifCond .ne 23, 3) := by decide +kernel
theorem dX5_countAhead_37 : decode cX5_countAhead 37 = .ok (.aload_n 0, 1) := by decide +kernel
theorem dX5_countAhead_38 : decode cX5_countAhead 38 = .ok (.getfield 9, 3) := by decide +kernel
theorem dX5_countAhead_41 : decode cX5_countAhead 41 = .ok (.iload_n 3, 1) := by decide +kernel
theorem dX5_countAhead_42 : decode cX5_countAhead 42 = .ok (.iaload, 1) := by decide +kernel
theorem dX5_countAhead_43 : decode cX5_countAhead 43 = .ok (.aload_n 0, 1) := by decide +kernel
theorem dX5_countAhead_44 : decode cX5_countAhead 44 = .ok (.getfield 9, 3) := by decide +kernel
theorem dX5_countAhead_47 : decode cX5_countAhead 47 = .ok (.iload_n 1, 1) := by decide +kernel
theorem dX5_countAhead_48 : decode cX5_countAhead 48 = .ok (.iaload, 1) := by decide +kernel
theorem dX5_countAhead_49 : decode cX5_countAhead 49 = .ok (.if_icmp .ne 11, 3) := by decide +kernel
theorem dX5_countAhead_52 : decode cX5_countAhead 52 = .ok (.iload_n 3, 1) := by decide +kernel
theorem dX5_countAhead_53 : decode cX5_countAhead 53 = .ok (.iload_n 1, 1) := by decide +kernel
theorem dX5_countAhead_54 : decode cX5_countAhead 54 = .ok (.if_icmp .ge 6, 3) := by decide +kernel
theorem dX5_countAhead_57 : decode cX5_countAhead 57 = .ok (.iinc 2 1, 3) := by decide +kernel
theorem dX5_countAhead_60 : decode cX5_countAhead 60 = .ok (.iinc 3 1, 3) := by decide +kernel
theorem dX5_countAhead_63 : decode cX5_countAhead 63 = .ok (.goto (-59), 3) := by decide +kernel
theorem dX5_countAhead_66 : decode cX5_countAhead 66 = .ok (.iload_n 2, 1) := by decide +kernel
theorem dX5_countAhead_67 : decode cX5_countAhead 67 = .ok (.ireturn, 1) := by decide +kernel
theorem dX5_isWithinNow_0 : decode cX5_isWithinNow 0 = .ok (.aload_n 0, 1) := by decide +kernel
theorem dX5_isWithinNow_1 : decode cX5_isWithinNow 1 = .ok (.getfield 22, 3) := by decide +kernel
theorem dX5_isWithinNow_4 : decode cX5_isWithinNow 4 = .ok (.iload_n 1, 1) := by decide +kernel
theorem dX5_isWithinNow_5 : decode cX5_isWithinNow 5 = .ok (.invokevirtual 90, 3) := by decide +kernel
theorem dX5_isWithinNow_8 : decode cX5_isWithinNow 8 = .ok (.astore_n 3, 1) := by decide +kernel
theorem dX5_isWithinNow_9 : decode cX5_isWithinNow 9 = .ok (.aload_n 3, 1) := by decide +kernel
theorem dX5_isWithinNow_10 : decode cX5_isWithinNow 10 = .ok (.ifnonnull 5, 3) := by decide +kernel
theorem dX5_isWithinNow_13 : decode cX5_isWithinNow 13 = .ok (.iconst 0, 1) := by decide +kernel
theorem dX5_isWithinNow_14 : decode cX5_isWithinNow 14 = .ok (.ireturn, 1) := by decide +kernel
theorem dX5_isWithinNow_15 : decode cX5_isWithinNow 15 = .ok (.iload_n 2, 1) := by decide +kernel
theorem dX5_isWithinNow_16 : decode cX5_isWithinNow 16 = .ok (.iconst (-1), 1) := by decide +kernel
theorem dX5_isWithinNow_17 : decode cX5_isWithinNow 17 = .ok (.if_icmp .eq 11, 3) := by decide +kernel
theorem dX5_isWithinNow_20 : decode cX5_isWithinNow 20 = .ok (.iload_n 2, 1) := by decide +kernel
theorem dX5_isWithinNow_21 : decode cX5_isWithinNow 21 = .ok (.aload_n 3, 1) := by decide +kernel
theorem dX5_isWithinNow_22 : decode cX5_isWithinNow 22 = .ok (.getfield 96, 3) := by decide +kernel
theorem dX5_isWithinNow_25 : decode cX5_isWithinNow 25 = .ok (.if_icmp .ne 5, 3) := by decide +kernel
theorem dX5_isWithinNow_28 : decode cX5_isWithinNow 28 = .ok (.iconst 1, 1) := by decide +kernel
theorem dX5_isWithinNow_29 : decode cX5_isWithinNow 29 = .ok (.ireturn, 1) := by decide +kernel
theorem dX5_isWithinNow_30 : decode cX5_isWithinNow 30 = .ok (.aload_n 0, 1) := by decide +kernel
theorem dX5_isWithinNow_31 : decode cX5_isWithinNow 31 = .ok (.getfield 18, 3) := by decide +kernel
theorem dX5_isWithinNow_34 : decode cX5_isWithinNow 34 = .ok (.iload_n 2, 1) := by decide +kernel
theorem dX5_isWithinNow_35 : decode cX5_isWithinNow 35 = .ok (.aload_n 3, 1) := by decide +kernel
theorem dX5_isWithinNow_36 : decode cX5_isWithinNow 36 = .ok (.getfield 96, 3) := by decide +kernel
theorem dX5_isWithinNow_39 : decode cX5_isWithinNow 39 = .ok (.invokevirtual 102, 3) := by decide +kernel
theorem dX5_isWithinNow_42 : decode cX5_isWithinNow 42 = .ok (.ifCond .eq 19, 3) := by decide +kernel
theorem dX5_isWithinNow_45 : decode cX5_isWithinNow 45 = .ok (.aload_n 0, 1) := by decide +kernel
theorem dX5_isWithinNow_46 : decode cX5_isWithinNow 46 = .ok (.getfield 18, 3) := by decide +kernel
theorem dX5_isWithinNow_49 : decode cX5_isWithinNow 49 = .ok (.iload_n 1, 1) := by decide +kernel
theorem dX5_isWithinNow_50 : decode cX5_isWithinNow 50 = .ok (.iload_n 2, 1) := by decide +kernel
theorem dX5_isWithinNow_51 : decode cX5_isWithinNow 51 = .ok (.invokevirtual 102, 3) := by decide +kernel
theorem dX5_isWithinNow_54 : decode cX5_isWithinNow 54 = .ok (.ifCond .eq 7, 3) := by decide +kernel
theorem dX5_isWithinNow_57 : decode cX5_isWithinNow 57 = .ok (.iconst 1, 1) := by decide +kernel
theorem dX5_isWithinNow_58 : decode cX5_isWithinNow 58 = .ok (.goto 4, 3) := by decide +kernel
theorem dX5_isWithinNow_61 : decode cX5_isWithinNow 61 = .ok (.iconst 0, 1) := by decide +kernel
theorem dX5_isWithinNow_62 : decode cX5_isWithinNow 62 = .ok (.ireturn, 1) := by decide +kernel
theorem dX5_scoreOf_0 : decode cX5_scoreOf 0 = .ok (.aload_n 0, 1) := by decide +kernel
theorem dX5_scoreOf_1 : decode cX5_scoreOf 1 = .ok (.getfield 18, 3) := by decide +kernel
theorem dX5_scoreOf_4 : decode cX5_scoreOf 4 = .ok (.iload_n 2, 1) := by decide +kernel
theorem dX5_scoreOf_5 : decode cX5_scoreOf 5 = .ok (.invokevirtual 44, 3) := by decide +kernel
theorem dX5_scoreOf_8 : decode cX5_scoreOf 8 = .ok (.ifCond .eq 26, 3) := by decide +kernel
theorem dX5_scoreOf_11 : decode cX5_scoreOf 11 = .ok (.aload_n 0, 1) := by decide +kernel
theorem dX5_scoreOf_12 : decode cX5_scoreOf 12 = .ok (.getfield 30, 3) := by decide +kernel
theorem dX5_scoreOf_15 : decode cX5_scoreOf 15 = .ok (.iload_n 2, 1) := by decide +kernel
theorem dX5_scoreOf_16 : decode cX5_scoreOf 16 = .ok (.invokevirtual 103, 3) := by decide +kernel
theorem dX5_scoreOf_19 : decode cX5_scoreOf 19 = .ok (.ifCond .eq 15, 3) := by decide +kernel
theorem dX5_scoreOf_22 : decode cX5_scoreOf 22 = .ok (.aload_n 0, 1) := by decide +kernel
theorem dX5_scoreOf_23 : decode cX5_scoreOf 23 = .ok (.getfield 18, 3) := by decide +kernel
theorem dX5_scoreOf_26 : decode cX5_scoreOf 26 = .ok (.iload_n 1, 1) := by decide +kernel
theorem dX5_scoreOf_27 : decode cX5_scoreOf 27 = .ok (.iload_n 2, 1) := by decide +kernel
theorem dX5_scoreOf_28 : decode cX5_scoreOf 28 = .ok (.invokevirtual 50, 3) := by decide +kernel
theorem dX5_scoreOf_31 : decode cX5_scoreOf 31 = .ok (.ifCond .ne 5, 3) := by decide +kernel
theorem dX5_scoreOf_34 : decode cX5_scoreOf 34 = .ok (.iconst 0, 1) := by decide +kernel
theorem dX5_scoreOf_35 : decode cX5_scoreOf 35 = .ok (.ireturn, 1) := by decide +kernel
theorem dX5_scoreOf_36 : decode cX5_scoreOf 36 = .ok (.aload_n 0, 1) := by decide +kernel
theorem dX5_scoreOf_37 : decode cX5_scoreOf 37 = .ok (.getfield 30, 3) := by decide +kernel
theorem dX5_scoreOf_40 : decode cX5_scoreOf 40 = .ok (.iload_n 2, 1) := by decide +kernel
theorem dX5_scoreOf_41 : decode cX5_scoreOf 41 = .ok (.invokevirtual 77, 3) := by decide +kernel
theorem dX5_scoreOf_44 : decode cX5_scoreOf 44 = .ok (.aload_n 0, 1) := by decide +kernel
theorem dX5_scoreOf_45 : decode cX5_scoreOf 45 = .ok (.getfield 30, 3) := by decide +kernel
theorem dX5_scoreOf_48 : decode cX5_scoreOf 48 = .ok (.iload_n 2, 1) := by decide +kernel
theorem dX5_scoreOf_49 : decode cX5_scoreOf 49 = .ok (.invokevirtual 80, 3) := by decide +kernel
theorem dX5_scoreOf_52 : decode cX5_scoreOf 52 = .ok (.iload_n 3, 1) := by decide +kernel
theorem dX5_scoreOf_53 : decode cX5_scoreOf 53 = .ok (.iload 4, 2) := by decide +kernel
theorem dX5_scoreOf_55 : decode cX5_scoreOf 55 = .ok (.invokestatic 70, 3) := by decide +kernel
theorem dX5_scoreOf_58 : decode cX5_scoreOf 58 = .ok (.ireturn, 1) := by decide +kernel
theorem dX5_score_0 : decode cX5_score 0 = .ok (.iconst 0, 1) := by decide +kernel
theorem dX5_score_1 : decode cX5_score 1 = .ok (.istore 4, 2) := by decide +kernel
theorem dX5_score_3 : decode cX5_score 3 = .ok (.iconst 0, 1) := by decide +kernel
theorem dX5_score_4 : decode cX5_score 4 = .ok (.istore 5, 2) := by decide +kernel
theorem dX5_score_6 : decode cX5_score 6 = .ok (.iconst 0, 1) := by decide +kernel
theorem dX5_score_7 : decode cX5_score 7 = .ok (.istore 6, 2) := by decide +kernel
theorem dX5_score_9 : decode cX5_score 9 = .ok (.iconst 0, 1) := by decide +kernel
theorem dX5_score_10 : decode cX5_score 10 = .ok (.istore 7, 2) := by decide +kernel
theorem dX5_score_12 : decode cX5_score 12 = .ok (.iload 7, 2) := by decide +kernel
theorem dX5_score_14 : decode cX5_score 14 = .ok (.iload_n 1, 1) := by decide +kernel
theorem dX5_score_15 : decode cX5_score 15 = .ok (.if_icmp .ge 65, 3) := by decide +kernel
theorem dX5_score_18 : decode cX5_score 18 = .ok (.iload 7, 2) := by decide +kernel
theorem dX5_score_20 : decode cX5_score 20 = .ok (.aload_n 0, 1) := by decide +kernel
theorem dX5_score_21 : decode cX5_score 21 = .ok (.arraylength, 1) := by decide +kernel
theorem dX5_score_22 : decode cX5_score 22 = .ok (.if_icmp .ge 58, 3) := by decide +kernel
theorem dX5_score_25 : decode cX5_score 25 = .ok (.aload_n 0, 1) := by decide +kernel
theorem dX5_score_26 : decode cX5_score 26 = .ok (.iload 7, 2) := by decide +kernel
theorem dX5_score_28 : decode cX5_score 28 = .ok (.iaload, 1) := by decide +kernel
theorem dX5_score_29 : decode cX5_score 29 = .ok (.iload_n 2, 1) := by decide +kernel
theorem dX5_score_30 : decode cX5_score 30 = .ok (.if_icmp .ne 6, 3) := by decide +kernel
theorem dX5_score_33 : decode cX5_score 33 = .ok (.iinc 4 1, 3) := by decide +kernel
theorem dX5_score_36 : decode cX5_score 36 = .ok (.aload_n 0, 1) := by decide +kernel
theorem dX5_score_37 : decode cX5_score 37 = .ok (.iload 7, 2) := by decide +kernel
theorem dX5_score_39 : decode cX5_score 39 = .ok (.iaload, 1) := by decide +kernel
theorem dX5_score_40 : decode cX5_score 40 = .ok (.iload_n 3, 1) := by decide +kernel
theorem dX5_score_41 : decode cX5_score 41 = .ok (.if_icmp .ne 33, 3) := by decide +kernel
theorem dX5_score_44 : decode cX5_score 44 = .ok (.iinc 5 1, 3) := by decide +kernel
theorem dX5_score_47 : decode cX5_score 47 = .ok (.iload 6, 2) := by decide +kernel
theorem dX5_score_49 : decode cX5_score 49 = .ok (.ifCond .ne 18, 3) := by decide +kernel
theorem dX5_score_52 : decode cX5_score 52 = .ok (.iload 7, 2) := by decide +kernel
theorem dX5_score_54 : decode cX5_score 54 = .ok (.ifCond .le 17, 3) := by decide +kernel
theorem dX5_score_57 : decode cX5_score 57 = .ok (.aload_n 0, 1) := by decide +kernel
theorem dX5_score_58 : decode cX5_score 58 = .ok (.iload 7, 2) := by decide +kernel
theorem dX5_score_60 : decode cX5_score 60 = .ok (.iconst 1, 1) := by decide +kernel
theorem dX5_score_61 : decode cX5_score 61 = .ok (.isub, 1) := by decide +kernel
theorem dX5_score_62 : decode cX5_score 62 = .ok (.iaload, 1) := by decide +kernel
theorem dX5_score_63 : decode cX5_score 63 = .ok (.iload_n 2, 1) := by decide +kernel
theorem dX5_score_64 : decode cX5_score 64 = .ok (.if_icmp .ne 7, 3) := by decide +kernel
theorem dX5_score_67 : decode cX5_score 67 = .ok (.iconst 1, 1) := by decide +kernel
theorem dX5_score_68 : decode cX5_score 68 = .ok (.goto 4, 3) := by decide +kernel
theorem dX5_score_71 : decode cX5_score 71 = .ok (.iconst 0, 1) := by decide +kernel
theorem dX5_score_72 : decode cX5_score 72 = .ok (.istore 6, 2) := by decide +kernel
theorem dX5_score_74 : decode cX5_score 74 = .ok (.iinc 7 1, 3) := by decide +kernel
theorem dX5_score_77 : decode cX5_score 77 = .ok (.goto (-65), 3) := by decide +kernel
theorem dX5_score_80 : decode cX5_score 80 = .ok (.iload_n 3, 1) := by decide +kernel
theorem dX5_score_81 : decode cX5_score 81 = .ok (.iconst (-1), 1) := by decide +kernel
theorem dX5_score_82 : decode cX5_score 82 = .ok (.if_icmp .ne 6, 3) := by decide +kernel
theorem dX5_score_85 : decode cX5_score 85 = .ok (.iload 4, 2) := by decide +kernel
theorem dX5_score_87 : decode cX5_score 87 = .ok (.ireturn, 1) := by decide +kernel
theorem dX5_score_88 : decode cX5_score 88 = .ok (.iload 4, 2) := by decide +kernel
theorem dX5_score_90 : decode cX5_score 90 = .ok (.ifCond .eq 8, 3) := by decide +kernel
theorem dX5_score_93 : decode cX5_score 93 = .ok (.iload 5, 2) := by decide +kernel
theorem dX5_score_95 : decode cX5_score 95 = .ok (.ifCond .ne 5, 3) := by decide +kernel
theorem dX5_score_98 : decode cX5_score 98 = .ok (.iconst 0, 1) := by decide +kernel
theorem dX5_score_99 : decode cX5_score 99 = .ok (.ireturn, 1) := by decide +kernel
theorem dX5_score_100 : decode cX5_score 100 = .ok (.iload 4, 2) := by decide +kernel
theorem dX5_score_102 : decode cX5_score 102 = .ok (.iload 5, 2) := by decide +kernel
theorem dX5_score_104 : decode cX5_score 104 = .ok (.iadd, 1) := by decide +kernel
theorem dX5_score_105 : decode cX5_score 105 = .ok (.iload 6, 2) := by decide +kernel
theorem dX5_score_107 : decode cX5_score 107 = .ok (.ifCond .eq 8, 3) := by decide +kernel
theorem dX5_score_110 : decode cX5_score 110 = .ok (.bipush 10, 2) := by decide +kernel
theorem dX5_score_112 : decode cX5_score 112 = .ok (.goto 4, 3) := by decide +kernel
theorem dX5_score_115 : decode cX5_score 115 = .ok (.iconst 0, 1) := by decide +kernel
theorem dX5_score_116 : decode cX5_score 116 = .ok (.iadd, 1) := by decide +kernel
theorem dX5_score_117 : decode cX5_score 117 = .ok (.ireturn, 1) := by decide +kernel
theorem dX6_takeWords_0 : decode cX6_takeWords 0 = .ok (.aload_n 1, 1) := by decide +kernel
theorem dX6_takeWords_1 : decode cX6_takeWords 1 = .ok (.iload_n 2, 1) := by decide +kernel
theorem dX6_takeWords_2 : decode cX6_takeWords 2 = .ok (.invokestatic 18, 3) := by decide +kernel
theorem dX6_takeWords_5 : decode cX6_takeWords 5 = .ok (.istore 4, 2) := by decide +kernel
theorem dX6_takeWords_7 : decode cX6_takeWords 7 = .ok (.iconst 0, 1) := by decide +kernel
theorem dX6_takeWords_8 : decode cX6_takeWords 8 = .ok (.istore 5, 2) := by decide +kernel
theorem dX6_takeWords_10 : decode cX6_takeWords 10 = .ok (.iconst 0, 1) := by decide +kernel
theorem dX6_takeWords_11 : decode cX6_takeWords 11 = .ok (.istore 6, 2) := by decide +kernel
theorem dX6_takeWords_13 : decode cX6_takeWords 13 = .ok (.iconst 0, 1) := by decide +kernel
theorem dX6_takeWords_14 : decode cX6_takeWords 14 = .ok (.istore 7, 2) := by decide +kernel
theorem dX6_takeWords_16 : decode cX6_takeWords 16 = .ok (.iload 7, 2) := by decide +kernel
theorem dX6_takeWords_18 : decode cX6_takeWords 18 = .ok (.iload 4, 2) := by decide +kernel
theorem dX6_takeWords_20 : decode cX6_takeWords 20 = .ok (.if_icmp .ge 89, 3) := by decide +kernel
theorem dX6_takeWords_23 : decode cX6_takeWords 23 = .ok (.iload 7, 2) := by decide +kernel
theorem dX6_takeWords_25 : decode cX6_takeWords 25 = .ok (.aload_n 1, 1) := by decide +kernel
theorem dX6_takeWords_26 : decode cX6_takeWords 26 = .ok (.arraylength, 1) := by decide +kernel
theorem dX6_takeWords_27 : decode cX6_takeWords 27 = .ok (.if_icmp .ge 82, 3) := by decide +kernel
theorem dX6_takeWords_30 : decode cX6_takeWords 30 = .ok (.aload_n 1, 1) := by decide +kernel
theorem dX6_takeWords_31 : decode cX6_takeWords 31 = .ok (.iload 7, 2) := by decide +kernel
theorem dX6_takeWords_33 : decode cX6_takeWords 33 = .ok (.iaload, 1) := by decide +kernel
theorem dX6_takeWords_34 : decode cX6_takeWords 34 = .ok (.istore 8, 2) := by decide +kernel
theorem dX6_takeWords_36 : decode cX6_takeWords 36 = .ok (.iload 8, 2) := by decide +kernel
theorem dX6_takeWords_38 : decode cX6_takeWords 38 = .ok (.bipush (-2), 2) := by decide +kernel
theorem dX6_takeWords_40 : decode cX6_takeWords 40 = .ok (.if_icmp .ne 9, 3) := by decide +kernel
theorem dX6_takeWords_43 : decode cX6_takeWords 43 = .ok (.iinc 6 1, 3) := by decide +kernel
theorem dX6_takeWords_46 : decode cX6_takeWords 46 = .ok (.goto 57, 3) := by decide +kernel
theorem dX6_takeWords_49 : decode cX6_takeWords 49 = .ok (.iload 8, 2) := by decide +kernel
theorem dX6_takeWords_51 : decode cX6_takeWords 51 = .ok (.bipush (-3), 2) := by decide +kernel
theorem dX6_takeWords_53 : decode cX6_takeWords 53 = .ok (.if_icmp .ne 16, 3) := by decide +kernel
theorem dX6_takeWords_56 : decode cX6_takeWords 56 = .ok (.iconst 0, 1) := by decide +kernel
theorem dX6_takeWords_57 : decode cX6_takeWords 57 = .ok (.iload 6, 2) := by decide +kernel
theorem dX6_takeWords_59 : decode cX6_takeWords 59 = .ok (.iconst 1, 1) := by decide +kernel
theorem dX6_takeWords_60 : decode cX6_takeWords 60 = .ok (.isub, 1) := by decide +kernel
theorem dX6_takeWords_61 : decode cX6_takeWords 61 = .ok (.invokestatic 22, 3) := by decide +kernel
theorem dX6_takeWords_64 : decode cX6_takeWords 64 = .ok (.istore 6, 2) := by decide +kernel
theorem dX6_takeWords_66 : decode cX6_takeWords 66 = .ok (.goto 37, 3) := by decide +kernel
theorem dX6_takeWords_69 : decode cX6_takeWords 69 = .ok (.iload 6, 2) := by decide +kernel
theorem dX6_takeWords_71 : decode cX6_takeWords 71 = .ok (.aload_n 0, 1) := by decide +kernel
theorem dX6_takeWords_72 : decode cX6_takeWords 72 = .ok (.getfield 9, 3) := by decide +kernel
theorem dX6_takeWords_75 : decode cX6_takeWords 75 = .ok (.if_icmp .gt 28, 3) := by decide +kernel
theorem dX6_takeWords_78 : decode cX6_takeWords 78 = .ok (.iload 5, 2) := by decide +kernel
theorem dX6_takeWords_80 : decode cX6_takeWords 80 = .ok (.aload_n 0, 1) := by decide +kernel
theorem dX6_takeWords_81 : decode cX6_takeWords 81 = .ok (.getfield 15, 3) := by decide +kernel
theorem dX6_takeWords_84 : decode cX6_takeWords 84 = .ok (.if_icmp .ge 19, 3) := by decide +kernel
theorem dX6_takeWords_87 : decode cX6_takeWords 87 = .ok (.iload 5, 2) := by decide +kernel
theorem dX6_takeWords_89 : decode cX6_takeWords 89 = .ok (.aload_n 3, 1) := by decide +kernel
theorem dX6_takeWords_90 : decode cX6_takeWords 90 = .ok (.arraylength, 1) := by decide +kernel
theorem dX6_takeWords_91 : decode cX6_takeWords 91 = .ok (.if_icmp .ge 12, 3) := by decide +kernel
theorem dX6_takeWords_94 : decode cX6_takeWords 94 = .ok (.aload_n 3, 1) := by decide +kernel
theorem dX6_takeWords_95 : decode cX6_takeWords 95 = .ok (.iload 5, 2) := by decide +kernel
theorem dX6_takeWords_97 : decode cX6_takeWords 97 = .ok (.iload 8, 2) := by decide +kernel
theorem dX6_takeWords_99 : decode cX6_takeWords 99 = .ok (.iastore, 1) := by decide +kernel
theorem dX6_takeWords_100 : decode cX6_takeWords 100 = .ok (.iinc 5 1, 3) := by decide +kernel
theorem dX6_takeWords_103 : decode cX6_takeWords 103 = .ok (.iinc 7 1, 3) := by decide +kernel
theorem dX6_takeWords_106 : decode cX6_takeWords 106 = .ok (.goto (-90), 3) := by decide +kernel
theorem dX6_takeWords_109 : decode cX6_takeWords 109 = .ok (.iload 5, 2) := by decide +kernel
theorem dX6_takeWords_111 : decode cX6_takeWords 111 = .ok (.ireturn, 1) := by decide +kernel
theorem dX6_endOfWhole_0 : decode cX6_endOfWhole 0 = .ok (.iload_n 1, 1) := by decide +kernel
theorem dX6_endOfWhole_1 : decode cX6_endOfWhole 1 = .ok (.aload_n 0, 1) := by decide +kernel
theorem dX6_endOfWhole_2 : decode cX6_endOfWhole 2 = .ok (.arraylength, 1) := by decide +kernel
theorem dX6_endOfWhole_3 : decode cX6_endOfWhole 3 = .ok (.invokestatic 28, 3) := by decide +kernel
theorem dX6_endOfWhole_6 : decode cX6_endOfWhole 6 = .ok (.istore_n 2, 1) := by decide +kernel
theorem dX6_endOfWhole_7 : decode cX6_endOfWhole 7 = .ok (.iconst 0, 1) := by decide +kernel
theorem dX6_endOfWhole_8 : decode cX6_endOfWhole 8 = .ok (.istore_n 3, 1) := by decide +kernel
theorem dX6_endOfWhole_9 : decode cX6_endOfWhole 9 = .ok (.iload_n 2, 1) := by decide +kernel
theorem dX6_endOfWhole_10 : decode cX6_endOfWhole 10 = .ok (.iconst 1, 1) := by decide +kernel
theorem dX6_endOfWhole_11 : decode cX6_endOfWhole 11 = .ok (.isub, 1) := by decide +kernel
theorem dX6_endOfWhole_12 : decode cX6_endOfWhole 12 = .ok (.istore 4, 2) := by decide +kernel
theorem dX6_endOfWhole_14 : decode cX6_endOfWhole 14 = .ok (.iload 4, 2) := by decide +kernel
theorem dX6_endOfWhole_16 : decode cX6_endOfWhole 16 = .ok (.ifCond .lt 55, 3) := by decide +kernel
theorem dX6_endOfWhole_19 : decode cX6_endOfWhole 19 = .ok (.aload_n 0, 1) := by decide +kernel
theorem dX6_endOfWhole_20 : decode cX6_endOfWhole 20 = .ok (.iload 4, 2) := by decide +kernel
theorem dX6_endOfWhole_22 : decode cX6_endOfWhole 22 = .ok (.iaload, 1) := by decide +kernel
theorem dX6_endOfWhole_23 : decode cX6_endOfWhole 23 = .ok (.istore 5, 2) := by decide +kernel
theorem dX6_endOfWhole_25 : decode cX6_endOfWhole 25 = .ok (.iload 5, 2) := by decide +kernel
theorem dX6_endOfWhole_27 : decode cX6_endOfWhole 27 = .ok (.bipush (-3), 2) := by decide +kernel
theorem dX6_endOfWhole_29 : decode cX6_endOfWhole 29 = .ok (.if_icmp .ne 9, 3) := by decide +kernel
theorem dX6_endOfWhole_32 : decode cX6_endOfWhole 32 = .ok (.iinc 3 1, 3) := by decide +kernel
theorem dX6_endOfWhole_35 : decode cX6_endOfWhole 35 = .ok (.goto 30, 3) := by decide +kernel
theorem dX6_endOfWhole_38 : decode cX6_endOfWhole 38 = .ok (.iload 5, 2) := by decide +kernel
theorem dX6_endOfWhole_40 : decode cX6_endOfWhole 40 = .ok (.bipush (-2), 2) := by decide +kernel
theorem dX6_endOfWhole_42 : decode cX6_endOfWhole 42 = .ok (.if_icmp .ne 13, 3) := by decide +kernel
theorem dX6_endOfWhole_45 : decode cX6_endOfWhole 45 = .ok (.iload_n 3, 1) := by decide +kernel
theorem dX6_endOfWhole_46 : decode cX6_endOfWhole 46 = .ok (.ifCond .le 9, 3) := by decide +kernel
theorem dX6_endOfWhole_49 : decode cX6_endOfWhole 49 = .ok (.iinc 3 (-1), 3) := by decide +kernel
theorem dX6_endOfWhole_52 : decode cX6_endOfWhole 52 = .ok (.goto 13, 3) := by decide +kernel
theorem dX6_endOfWhole_55 : decode cX6_endOfWhole 55 = .ok (.iload 5, 2) := by decide +kernel
theorem dX6_endOfWhole_57 : decode cX6_endOfWhole 57 = .ok (.bipush (-2), 2) := by decide +kernel
theorem dX6_endOfWhole_59 : decode cX6_endOfWhole 59 = .ok (.if_icmp .ne 6, 3) := by decide +kernel
theorem dX6_endOfWhole_62 : decode cX6_endOfWhole 62 = .ok (.iload 4, 2) := by decide +kernel
theorem dX6_endOfWhole_64 : decode cX6_endOfWhole 64 = .ok (.istore_n 2, 1) := by decide +kernel
theorem dX6_endOfWhole_65 : decode cX6_endOfWhole 65 = .ok (.iinc 4 (-1), 3) := by decide +kernel
theorem dX6_endOfWhole_68 : decode cX6_endOfWhole 68 = .ok (.goto (-54), 3) := by decide +kernel
theorem dX6_endOfWhole_71 : decode cX6_endOfWhole 71 = .ok (.iload_n 2, 1) := by decide +kernel
theorem dX6_endOfWhole_72 : decode cX6_endOfWhole 72 = .ok (.ireturn, 1) := by decide +kernel
theorem dX7_startAt_0 : decode cX7_startAt 0 = .ok (.aload_n 0, 1) := by decide +kernel
theorem dX7_startAt_1 : decode cX7_startAt 1 = .ok (.iload_n 1, 1) := by decide +kernel
theorem dX7_startAt_2 : decode cX7_startAt 2 = .ok (.putfield 25, 3) := by decide +kernel
theorem dX7_startAt_5 : decode cX7_startAt 5 = .ok (.aload_n 0, 1) := by decide +kernel
theorem dX7_startAt_6 : decode cX7_startAt 6 = .ok (.iconst 0, 1) := by decide +kernel
theorem dX7_startAt_7 : decode cX7_startAt 7 = .ok (.putfield 29, 3) := by decide +kernel
theorem dX7_startAt_10 : decode cX7_startAt 10 = .ok (.aload_n 0, 1) := by decide +kernel
theorem dX7_startAt_11 : decode cX7_startAt 11 = .ok (.iconst 0, 1) := by decide +kernel
theorem dX7_startAt_12 : decode cX7_startAt 12 = .ok (.putfield 32, 3) := by decide +kernel
theorem dX7_startAt_15 : decode cX7_startAt 15 = .ok (.aload_n 0, 1) := by decide +kernel
theorem dX7_startAt_16 : decode cX7_startAt 16 = .ok (.invokevirtual 36, 3) := by decide +kernel
theorem dX7_startAt_19 : decode cX7_startAt 19 = .ok (.return_, 1) := by decide +kernel
theorem dX7_beginCrawl_0 : decode cX7_beginCrawl 0 = .ok (.aload_n 0, 1) := by decide +kernel
theorem dX7_beginCrawl_1 : decode cX7_beginCrawl 1 = .ok (.getfield 21, 3) := by decide +kernel
theorem dX7_beginCrawl_4 : decode cX7_beginCrawl 4 = .ok (.aload_n 0, 1) := by decide +kernel
theorem dX7_beginCrawl_5 : decode cX7_beginCrawl 5 = .ok (.getfield 25, 3) := by decide +kernel
theorem dX7_beginCrawl_8 : decode cX7_beginCrawl 8 = .ok (.invokevirtual 39, 3) := by decide +kernel
theorem dX7_beginCrawl_11 : decode cX7_beginCrawl 11 = .ok (.return_, 1) := by decide +kernel
theorem dX7_tell_0 : decode cX7_tell 0 = .ok (.aload_n 0, 1) := by decide +kernel
theorem dX7_tell_1 : decode cX7_tell 1 = .ok (.getfield 32, 3) := by decide +kernel
theorem dX7_tell_4 : decode cX7_tell 4 = .ok (.ifCond .eq 4, 3) := by decide +kernel
theorem dX7_tell_7 : decode cX7_tell 7 = .ok (.return_, 1) := by decide +kernel
theorem dX7_tell_8 : decode cX7_tell 8 = .ok (.aload_n 0, 1) := by decide +kernel
theorem dX7_tell_9 : decode cX7_tell 9 = .ok (.getfield 29, 3) := by decide +kernel
theorem dX7_tell_12 : decode cX7_tell 12 = .ok (.ifCond .lt 12, 3) := by decide +kernel
theorem dX7_tell_15 : decode cX7_tell 15 = .ok (.aload_n 0, 1) := by decide +kernel
theorem dX7_tell_16 : decode cX7_tell 16 = .ok (.getfield 29, 3) := by decide +kernel
theorem dX7_tell_19 : decode cX7_tell 19 = .ok (.bipush 8, 2) := by decide +kernel
theorem dX7_tell_21 : decode cX7_tell 21 = .ok (.if_icmp .lt 14, 3) := by decide +kernel
theorem dX7_tell_24 : decode cX7_tell 24 = .ok (.aload_n 0, 1) := by decide +kernel
theorem dX7_tell_25 : decode cX7_tell 25 = .ok (.iconst 1, 1) := by decide +kernel
theorem dX7_tell_26 : decode cX7_tell 26 = .ok (.putfield 32, 3) := by decide +kernel
theorem dX7_tell_29 : decode cX7_tell 29 = .ok (.aload_n 0, 1) := by decide +kernel
theorem dX7_tell_30 : decode cX7_tell 30 = .ok (.iconst 0, 1) := by decide +kernel
theorem dX7_tell_31 : decode cX7_tell 31 = .ok (.putfield 29, 3) := by decide +kernel
theorem dX7_tell_34 : decode cX7_tell 34 = .ok (.return_, 1) := by decide +kernel
theorem dX7_tell_35 : decode cX7_tell 35 = .ok (.aload_n 0, 1) := by decide +kernel
theorem dX7_tell_36 : decode cX7_tell 36 = .ok (.getfield 9, 3) := by decide +kernel
theorem dX7_tell_39 : decode cX7_tell 39 = .ok (.aload_n 0, 1) := by decide +kernel
theorem dX7_tell_40 : decode cX7_tell 40 = .ok (.getfield 29, 3) := by decide +kernel
theorem dX7_tell_43 : decode cX7_tell 43 = .ok (.iload_n 1, 1) := by decide +kernel
theorem dX7_tell_44 : decode cX7_tell 44 = .ok (.iastore, 1) := by decide +kernel
theorem dX7_tell_45 : decode cX7_tell 45 = .ok (.aload_n 0, 1) := by decide +kernel
theorem dX7_tell_46 : decode cX7_tell 46 = .ok (.getfield 15, 3) := by decide +kernel
theorem dX7_tell_49 : decode cX7_tell 49 = .ok (.aload_n 0, 1) := by decide +kernel
theorem dX7_tell_50 : decode cX7_tell 50 = .ok (.getfield 29, 3) := by decide +kernel
theorem dX7_tell_53 : decode cX7_tell 53 = .ok (.iload_n 2, 1) := by decide +kernel
theorem dX7_tell_54 : decode cX7_tell 54 = .ok (.iastore, 1) := by decide +kernel
theorem dX7_tell_55 : decode cX7_tell 55 = .ok (.aload_n 0, 1) := by decide +kernel
theorem dX7_tell_56 : decode cX7_tell 56 = .ok (.dup, 1) := by decide +kernel
theorem dX7_tell_57 : decode cX7_tell 57 = .ok (.getfield 29, 3) := by decide +kernel
theorem dX7_tell_60 : decode cX7_tell 60 = .ok (.iconst 1, 1) := by decide +kernel
theorem dX7_tell_61 : decode cX7_tell 61 = .ok (.iadd, 1) := by decide +kernel
theorem dX7_tell_62 : decode cX7_tell 62 = .ok (.putfield 29, 3) := by decide +kernel
theorem dX7_tell_65 : decode cX7_tell 65 = .ok (.return_, 1) := by decide +kernel
theorem dX7_tellLastAgain_0 : decode cX7_tellLastAgain 0 = .ok (.aload_n 0, 1) := by decide +kernel
theorem dX7_tellLastAgain_1 : decode cX7_tellLastAgain 1 = .ok (.getfield 29, 3) := by decide +kernel
theorem dX7_tellLastAgain_4 : decode cX7_tellLastAgain 4 = .ok (.iconst 1, 1) := by decide +kernel
theorem dX7_tellLastAgain_5 : decode cX7_tellLastAgain 5 = .ok (.isub, 1) := by decide +kernel
theorem dX7_tellLastAgain_6 : decode cX7_tellLastAgain 6 = .ok (.istore_n 1, 1) := by decide +kernel
theorem dX7_tellLastAgain_7 : decode cX7_tellLastAgain 7 = .ok (.iload_n 1, 1) := by decide +kernel
theorem dX7_tellLastAgain_8 : decode cX7_tellLastAgain 8 = .ok (.ifCond .lt 25, 3) := by decide +kernel
theorem dX7_tellLastAgain_11 : decode cX7_tellLastAgain 11 = .ok (.iload_n 1, 1) := by decide +kernel
theorem dX7_tellLastAgain_12 : decode cX7_tellLastAgain 12 = .ok (.bipush 8, 2) := by decide +kernel
theorem dX7_tellLastAgain_14 : decode cX7_tellLastAgain 14 = .ok (.if_icmp .ge 19, 3) := by decide +kernel
theorem dX7_tellLastAgain_17 : decode cX7_tellLastAgain 17 = .ok (.aload_n 0, 1) := by decide +kernel
theorem dX7_tellLastAgain_18 : decode cX7_tellLastAgain 18 = .ok (.aload_n 0, 1) := by decide +kernel
theorem dX7_tellLastAgain_19 : decode cX7_tellLastAgain 19 = .ok (.getfield 9, 3) := by decide +kernel
theorem dX7_tellLastAgain_22 : decode cX7_tellLastAgain 22 = .ok (.iload_n 1, 1) := by decide +kernel
theorem dX7_tellLastAgain_23 : decode cX7_tellLastAgain 23 = .ok (.iaload, 1) := by decide +kernel
theorem dX7_tellLastAgain_24 : decode cX7_tellLastAgain 24 = .ok (.aload_n 0, 1) := by decide +kernel
theorem dX7_tellLastAgain_25 : decode cX7_tellLastAgain 25 = .ok (.getfield 15, 3) := by decide +kernel
theorem dX7_tellLastAgain_28 : decode cX7_tellLastAgain 28 = .ok (.iload_n 1, 1) := by decide +kernel
theorem dX7_tellLastAgain_29 : decode cX7_tellLastAgain 29 = .ok (.iaload, 1) := by decide +kernel
theorem dX7_tellLastAgain_30 : decode cX7_tellLastAgain 30 = .ok (.invokevirtual 43, 3) := by decide +kernel
theorem dX7_tellLastAgain_33 : decode cX7_tellLastAgain 33 = .ok (.return_, 1) := by decide +kernel
theorem dX7_hasNotices_0 : decode cX7_hasNotices 0 = .ok (.aload_n 0, 1) := by decide +kernel
theorem dX7_hasNotices_1 : decode cX7_hasNotices 1 = .ok (.getfield 29, 3) := by decide +kernel
theorem dX7_hasNotices_4 : decode cX7_hasNotices 4 = .ok (.ifCond .le 7, 3) := by decide +kernel
theorem dX7_hasNotices_7 : decode cX7_hasNotices 7 = .ok (.iconst 1, 1) := by decide +kernel
theorem dX7_hasNotices_8 : decode cX7_hasNotices 8 = .ok (.goto 4, 3) := by decide +kernel
theorem dX7_hasNotices_11 : decode cX7_hasNotices 11 = .ok (.iconst 0, 1) := by decide +kernel
theorem dX7_hasNotices_12 : decode cX7_hasNotices 12 = .ok (.ireturn, 1) := by decide +kernel
theorem dX7_countOrFlood_0 : decode cX7_countOrFlood 0 = .ok (.aload_n 0, 1) := by decide +kernel
theorem dX7_countOrFlood_1 : decode cX7_countOrFlood 1 = .ok (.getfield 32, 3) := by decide +kernel
theorem dX7_countOrFlood_4 : decode cX7_countOrFlood 4 = .ok (.ifCond .eq 7, 3) := by decide +kernel
theorem dX7_countOrFlood_7 : decode cX7_countOrFlood 7 = .ok (.iconst (-1), 1) := by decide +kernel
theorem dX7_countOrFlood_8 : decode cX7_countOrFlood 8 = .ok (.goto 7, 3) := by decide +kernel
theorem dX7_countOrFlood_11 : decode cX7_countOrFlood 11 = .ok (.aload_n 0, 1) := by decide +kernel
theorem dX7_countOrFlood_12 : decode cX7_countOrFlood 12 = .ok (.getfield 29, 3) := by decide +kernel
theorem dX7_countOrFlood_15 : decode cX7_countOrFlood 15 = .ok (.ireturn, 1) := by decide +kernel
theorem dX7_forgetLast_0 : decode cX7_forgetLast 0 = .ok (.aload_n 0, 1) := by decide +kernel
theorem dX7_forgetLast_1 : decode cX7_forgetLast 1 = .ok (.iconst 0, 1) := by decide +kernel
theorem dX7_forgetLast_2 : decode cX7_forgetLast 2 = .ok (.aload_n 0, 1) := by decide +kernel
theorem dX7_forgetLast_3 : decode cX7_forgetLast 3 = .ok (.getfield 29, 3) := by decide +kernel
theorem dX7_forgetLast_6 : decode cX7_forgetLast 6 = .ok (.iload_n 1, 1) := by decide +kernel
theorem dX7_forgetLast_7 : decode cX7_forgetLast 7 = .ok (.isub, 1) := by decide +kernel
theorem dX7_forgetLast_8 : decode cX7_forgetLast 8 = .ok (.invokestatic 47, 3) := by decide +kernel
theorem dX7_forgetLast_11 : decode cX7_forgetLast 11 = .ok (.putfield 29, 3) := by decide +kernel
theorem dX7_forgetLast_14 : decode cX7_forgetLast 14 = .ok (.aload_n 0, 1) := by decide +kernel
theorem dX7_forgetLast_15 : decode cX7_forgetLast 15 = .ok (.getfield 29, 3) := by decide +kernel
theorem dX7_forgetLast_18 : decode cX7_forgetLast 18 = .ok (.ireturn, 1) := by decide +kernel
theorem dX7_takeFirst_0 : decode cX7_takeFirst 0 = .ok (.iconst 1, 1) := by decide +kernel
theorem dX7_takeFirst_1 : decode cX7_takeFirst 1 = .ok (.istore_n 1, 1) := by decide +kernel
theorem dX7_takeFirst_2 : decode cX7_takeFirst 2 = .ok (.iload_n 1, 1) := by decide +kernel
theorem dX7_takeFirst_3 : decode cX7_takeFirst 3 = .ok (.aload_n 0, 1) := by decide +kernel
theorem dX7_takeFirst_4 : decode cX7_takeFirst 4 = .ok (.getfield 29, 3) := by decide +kernel
theorem dX7_takeFirst_7 : decode cX7_takeFirst 7 = .ok (.if_icmp .ge 43, 3) := by decide +kernel
theorem dX7_takeFirst_10 : decode cX7_takeFirst 10 = .ok (.iload_n 1, 1) := by decide +kernel
theorem dX7_takeFirst_11 : decode cX7_takeFirst 11 = .ok (.bipush 8, 2) := by decide +kernel
theorem dX7_takeFirst_13 : decode cX7_takeFirst 13 = .ok (.if_icmp .ge 37, 3) := by decide +kernel
theorem dX7_takeFirst_16 : decode cX7_takeFirst 16 = .ok (.aload_n 0, 1) := by decide +kernel
theorem dX7_takeFirst_17 : decode cX7_takeFirst 17 = .ok (.getfield 9, 3) := by decide +kernel
theorem dX7_takeFirst_20 : decode cX7_takeFirst 20 = .ok (.iload_n 1, 1) := by decide +kernel
theorem dX7_takeFirst_21 : decode cX7_takeFirst 21 = .ok (.iconst 1, 1) := by decide +kernel
theorem dX7_takeFirst_22 : decode cX7_takeFirst 22 = .ok (.isub, 1) := by decide +kernel
theorem dX7_takeFirst_23 : decode cX7_takeFirst 23 = .ok (.aload_n 0, 1) := by decide +kernel
theorem dX7_takeFirst_24 : decode cX7_takeFirst 24 = .ok (.getfield 9, 3) := by decide +kernel
theorem dX7_takeFirst_27 : decode cX7_takeFirst 27 = .ok (.iload_n 1, 1) := by decide +kernel
theorem dX7_takeFirst_28 : decode cX7_takeFirst 28 = .ok (.iaload, 1) := by decide +kernel
theorem dX7_takeFirst_29 : decode cX7_takeFirst 29 = .ok (.iastore, 1) := by decide +kernel
theorem dX7_takeFirst_30 : decode cX7_takeFirst 30 = .ok (.aload_n 0, 1) := by decide +kernel
theorem dX7_takeFirst_31 : decode cX7_takeFirst 31 = .ok (.getfield 15, 3) := by decide +kernel
theorem dX7_takeFirst_34 : decode cX7_takeFirst 34 = .ok (.iload_n 1, 1) := by decide +kernel
theorem dX7_takeFirst_35 : decode cX7_takeFirst 35 = .ok (.iconst 1, 1) := by decide +kernel
theorem dX7_takeFirst_36 : decode cX7_takeFirst 36 = .ok (.isub, 1) := by decide +kernel
theorem dX7_takeFirst_37 : decode cX7_takeFirst 37 = .ok (.aload_n 0, 1) := by decide +kernel
theorem dX7_takeFirst_38 : decode cX7_takeFirst 38 = .ok (.getfield 15, 3) := by decide +kernel
theorem dX7_takeFirst_41 : decode cX7_takeFirst 41 = .ok (.iload_n 1, 1) := by decide +kernel
theorem dX7_takeFirst_42 : decode cX7_takeFirst 42 = .ok (.iaload, 1) := by decide +kernel
theorem dX7_takeFirst_43 : decode cX7_takeFirst 43 = .ok (.iastore, 1) := by decide +kernel
theorem dX7_takeFirst_44 : decode cX7_takeFirst 44 = .ok (.iinc 1 1, 3) := by decide +kernel
theorem dX7_takeFirst_47 : decode cX7_takeFirst 47 = .ok (.goto (-45), 3) := by decide +kernel
theorem dX7_takeFirst_50 : decode cX7_takeFirst 50 = .ok (.aload_n 0, 1) := by decide +kernel
theorem dX7_takeFirst_51 : decode cX7_takeFirst 51 = .ok (.iconst 0, 1) := by decide +kernel
theorem dX7_takeFirst_52 : decode cX7_takeFirst 52 = .ok (.aload_n 0, 1) := by decide +kernel
theorem dX7_takeFirst_53 : decode cX7_takeFirst 53 = .ok (.getfield 29, 3) := by decide +kernel
theorem dX7_takeFirst_56 : decode cX7_takeFirst 56 = .ok (.iconst 1, 1) := by decide +kernel
theorem dX7_takeFirst_57 : decode cX7_takeFirst 57 = .ok (.isub, 1) := by decide +kernel
theorem dX7_takeFirst_58 : decode cX7_takeFirst 58 = .ok (.invokestatic 47, 3) := by decide +kernel
theorem dX7_takeFirst_61 : decode cX7_takeFirst 61 = .ok (.putfield 29, 3) := by decide +kernel
theorem dX7_takeFirst_64 : decode cX7_takeFirst 64 = .ok (.return_, 1) := by decide +kernel
theorem dX8_count_0 : decode cX8_count 0 = .ok (.aload_n 0, 1) := by decide +kernel
theorem dX8_count_1 : decode cX8_count 1 = .ok (.getfield 22, 3) := by decide +kernel
theorem dX8_count_4 : decode cX8_count 4 = .ok (.ireturn, 1) := by decide +kernel
theorem dX8_isFull_0 : decode cX8_isFull 0 = .ok (.aload_n 0, 1) := by decide +kernel
theorem dX8_isFull_1 : decode cX8_isFull 1 = .ok (.getfield 22, 3) := by decide +kernel
theorem dX8_isFull_4 : decode cX8_isFull 4 = .ok (.iconst 3, 1) := by decide +kernel
theorem dX8_isFull_5 : decode cX8_isFull 5 = .ok (.if_icmp .lt 7, 3) := by decide +kernel
theorem dX8_isFull_8 : decode cX8_isFull 8 = .ok (.iconst 1, 1) := by decide +kernel
theorem dX8_isFull_9 : decode cX8_isFull 9 = .ok (.goto 4, 3) := by decide +kernel
theorem dX8_isFull_12 : decode cX8_isFull 12 = .ok (.iconst 0, 1) := by decide +kernel
theorem dX8_isFull_13 : decode cX8_isFull 13 = .ok (.ireturn, 1) := by decide +kernel
theorem dX8_find_0 : decode cX8_find 0 = .ok (.iconst 0, 1) := by decide +kernel
theorem dX8_find_1 : decode cX8_find 1 = .ok (.istore_n 2, 1) := by decide +kernel
theorem dX8_find_2 : decode cX8_find 2 = .ok (.iload_n 2, 1) := by decide +kernel
theorem dX8_find_3 : decode cX8_find 3 = .ok (.aload_n 0, 1) := by decide +kernel
theorem dX8_find_4 : decode cX8_find 4 = .ok (.getfield 22, 3) := by decide +kernel
theorem dX8_find_7 : decode cX8_find 7 = .ok (.if_icmp .ge 35, 3) := by decide +kernel
theorem dX8_find_10 : decode cX8_find 10 = .ok (.iload_n 2, 1) := by decide +kernel
theorem dX8_find_11 : decode cX8_find 11 = .ok (.iconst 3, 1) := by decide +kernel
theorem dX8_find_12 : decode cX8_find 12 = .ok (.if_icmp .ge 30, 3) := by decide +kernel
theorem dX8_find_15 : decode cX8_find 15 = .ok (.aload_n 0, 1) := by decide +kernel
theorem dX8_find_16 : decode cX8_find 16 = .ok (.getfield 11, 3) := by decide +kernel
theorem dX8_find_19 : decode cX8_find 19 = .ok (.iload_n 2, 1) := by decide +kernel
theorem dX8_find_20 : decode cX8_find 20 = .ok (.aaload, 1) := by decide +kernel
theorem dX8_find_21 : decode cX8_find 21 = .ok (.astore_n 3, 1) := by decide +kernel
theorem dX8_find_22 : decode cX8_find 22 = .ok (.aload_n 3, 1) := by decide +kernel
theorem dX8_find_23 : decode cX8_find 23 = .ok (.ifnull 13, 3) := by decide +kernel
theorem dX8_find_26 : decode cX8_find 26 = .ok (.aload_n 3, 1) := by decide +kernel
theorem dX8_find_27 : decode cX8_find 27 = .ok (.getfield 26, 3) := by decide +kernel
theorem dX8_find_30 : decode cX8_find 30 = .ok (.iload_n 1, 1) := by decide +kernel
theorem dX8_find_31 : decode cX8_find 31 = .ok (.if_icmp .ne 5, 3) := by decide +kernel
theorem dX8_find_34 : decode cX8_find 34 = .ok (.aload_n 3, 1) := by decide +kernel
theorem dX8_find_35 : decode cX8_find 35 = .ok (.areturn, 1) := by decide +kernel
theorem dX8_find_36 : decode cX8_find 36 = .ok (.iinc 2 1, 3) := by decide +kernel
theorem dX8_find_39 : decode cX8_find 39 = .ok (.goto (-37), 3) := by decide +kernel
theorem dX8_find_42 : decode cX8_find 42 = .ok (.aconst_null, 1) := by decide +kernel
theorem dX8_find_43 : decode cX8_find 43 = .ok (.areturn, 1) := by decide +kernel
theorem dX8_holding_0 : decode cX8_holding 0 = .ok (.iload_n 1, 1) := by decide +kernel
theorem dX8_holding_1 : decode cX8_holding 1 = .ok (.istore_n 2, 1) := by decide +kernel
theorem dX8_holding_2 : decode cX8_holding 2 = .ok (.iconst 0, 1) := by decide +kernel
theorem dX8_holding_3 : decode cX8_holding 3 = .ok (.istore_n 3, 1) := by decide +kernel
theorem dX8_holding_4 : decode cX8_holding 4 = .ok (.iload_n 3, 1) := by decide +kernel
theorem dX8_holding_5 : decode cX8_holding 5 = .ok (.bipush 60, 2) := by decide +kernel
theorem dX8_holding_7 : decode cX8_holding 7 = .ok (.if_icmp .ge 38, 3) := by decide +kernel
theorem dX8_holding_10 : decode cX8_holding 10 = .ok (.iload_n 2, 1) := by decide +kernel
theorem dX8_holding_11 : decode cX8_holding 11 = .ok (.iconst (-1), 1) := by decide +kernel
theorem dX8_holding_12 : decode cX8_holding 12 = .ok (.if_icmp .eq 33, 3) := by decide +kernel
theorem dX8_holding_15 : decode cX8_holding 15 = .ok (.aload_n 0, 1) := by decide +kernel
theorem dX8_holding_16 : decode cX8_holding 16 = .ok (.iload_n 2, 1) := by decide +kernel
theorem dX8_holding_17 : decode cX8_holding 17 = .ok (.invokevirtual 29, 3) := by decide +kernel
theorem dX8_holding_20 : decode cX8_holding 20 = .ok (.astore 4, 2) := by decide +kernel
theorem dX8_holding_22 : decode cX8_holding 22 = .ok (.aload 4, 2) := by decide +kernel
theorem dX8_holding_24 : decode cX8_holding 24 = .ok (.ifnull 6, 3) := by decide +kernel
theorem dX8_holding_27 : decode cX8_holding 27 = .ok (.aload 4, 2) := by decide +kernel
theorem dX8_holding_29 : decode cX8_holding 29 = .ok (.areturn, 1) := by decide +kernel
theorem dX8_holding_30 : decode cX8_holding 30 = .ok (.aload_n 0, 1) := by decide +kernel
theorem dX8_holding_31 : decode cX8_holding 31 = .ok (.getfield 17, 3) := by decide +kernel
theorem dX8_holding_34 : decode cX8_holding 34 = .ok (.iload_n 2, 1) := by decide +kernel
theorem dX8_holding_35 : decode cX8_holding 35 = .ok (.invokevirtual 33, 3) := by decide +kernel
theorem dX8_holding_38 : decode cX8_holding 38 = .ok (.istore_n 2, 1) := by decide +kernel
theorem dX8_holding_39 : decode cX8_holding 39 = .ok (.iinc 3 1, 3) := by decide +kernel
theorem dX8_holding_42 : decode cX8_holding 42 = .ok (.goto (-38), 3) := by decide +kernel
theorem dX8_holding_45 : decode cX8_holding 45 = .ok (.aconst_null, 1) := by decide +kernel
theorem dX8_holding_46 : decode cX8_holding 46 = .ok (.areturn, 1) := by decide +kernel
theorem dX8_above_0 : decode cX8_above 0 = .ok (.aload_n 0, 1) := by decide +kernel
theorem dX8_above_1 : decode cX8_above 1 = .ok (.aload_n 0, 1) := by decide +kernel
theorem dX8_above_2 : decode cX8_above 2 = .ok (.getfield 17, 3) := by decide +kernel
theorem dX8_above_5 : decode cX8_above 5 = .ok (.iload_n 1, 1) := by decide +kernel
theorem dX8_above_6 : decode cX8_above 6 = .ok (.invokevirtual 33, 3) := by decide +kernel
theorem dX8_above_9 : decode cX8_above 9 = .ok (.invokevirtual 39, 3) := by decide +kernel
theorem dX8_above_12 : decode cX8_above 12 = .ok (.areturn, 1) := by decide +kernel
theorem dX8_hasAtOrBelow_0 : decode cX8_hasAtOrBelow 0 = .ok (.iconst 0, 1) := by decide +kernel
theorem dX8_hasAtOrBelow_1 : decode cX8_hasAtOrBelow 1 = .ok (.istore_n 2, 1) := by decide +kernel
theorem dX8_hasAtOrBelow_2 : decode cX8_hasAtOrBelow 2 = .ok (.iload_n 2, 1) := by decide +kernel
theorem dX8_hasAtOrBelow_3 : decode cX8_hasAtOrBelow 3 = .ok (.aload_n 0, 1) := by decide +kernel
theorem dX8_hasAtOrBelow_4 : decode cX8_hasAtOrBelow 4 = .ok (.getfield 22, 3) := by decide +kernel
theorem dX8_hasAtOrBelow_7 : decode cX8_hasAtOrBelow 7 = .ok (.if_icmp .ge 50, 3) := by decide +kernel
theorem dX8_hasAtOrBelow_10 : decode cX8_hasAtOrBelow 10 = .ok (.iload_n 2, 1) := by decide +kernel
theorem dX8_hasAtOrBelow_11 : decode cX8_hasAtOrBelow 11 = .ok (.iconst 3, 1) := by decide +kernel
theorem dX8_hasAtOrBelow_12 : decode cX8_hasAtOrBelow 12 = .ok (.if_icmp .ge 45, 3) := by decide +kernel
theorem dX8_hasAtOrBelow_15 : decode cX8_hasAtOrBelow 15 = .ok (.aload_n 0, 1) := by decide +kernel
theorem dX8_hasAtOrBelow_16 : decode cX8_hasAtOrBelow 16 = .ok (.getfield 11, 3) := by decide +kernel
theorem dX8_hasAtOrBelow_19 : decode cX8_hasAtOrBelow 19 = .ok (.iload_n 2, 1) := by decide +kernel
theorem dX8_hasAtOrBelow_20 : decode cX8_hasAtOrBelow 20 = .ok (.aaload, 1) := by decide +kernel
theorem dX8_hasAtOrBelow_21 : decode cX8_hasAtOrBelow 21 = .ok (.astore_n 3, 1) := by decide +kernel
theorem dX8_hasAtOrBelow_22 : decode cX8_hasAtOrBelow 22 = .ok (.aload_n 3, 1) := by decide +kernel
theorem dX8_hasAtOrBelow_23 : decode cX8_hasAtOrBelow 23 = .ok (.ifnull 28, 3) := by decide +kernel
theorem dX8_hasAtOrBelow_26 : decode cX8_hasAtOrBelow 26 = .ok (.aload_n 3, 1) := by decide +kernel
theorem dX8_hasAtOrBelow_27 : decode cX8_hasAtOrBelow 27 = .ok (.getfield 26, 3) := by decide +kernel
theorem dX8_hasAtOrBelow_30 : decode cX8_hasAtOrBelow 30 = .ok (.iload_n 1, 1) := by decide +kernel
theorem dX8_hasAtOrBelow_31 : decode cX8_hasAtOrBelow 31 = .ok (.if_icmp .eq 18, 3) := by decide +kernel
theorem dX8_hasAtOrBelow_34 : decode cX8_hasAtOrBelow 34 = .ok (.aload_n 0, 1) := by decide +kernel
theorem dX8_hasAtOrBelow_35 : decode cX8_hasAtOrBelow 35 = .ok (.getfield 17, 3) := by decide +kernel
theorem dX8_hasAtOrBelow_38 : decode cX8_hasAtOrBelow 38 = .ok (.aload_n 3, 1) := by decide +kernel
theorem dX8_hasAtOrBelow_39 : decode cX8_hasAtOrBelow 39 = .ok (.getfield 26, 3) := by decide +kernel
theorem dX8_hasAtOrBelow_42 : decode cX8_hasAtOrBelow 42 = .ok (.iload_n 1, 1) := by decide +kernel
theorem dX8_hasAtOrBelow_43 : decode cX8_hasAtOrBelow 43 = .ok (.invokevirtual 42, 3) := by decide +kernel
theorem dX8_hasAtOrBelow_46 : decode cX8_hasAtOrBelow 46 = .ok (.ifCond .eq 5, 3) := by decide +kernel
theorem dX8_hasAtOrBelow_49 : decode cX8_hasAtOrBelow 49 = .ok (.iconst 1, 1) := by decide +kernel
theorem dX8_hasAtOrBelow_50 : decode cX8_hasAtOrBelow 50 = .ok (.ireturn, 1) := by decide +kernel
theorem dX8_hasAtOrBelow_51 : decode cX8_hasAtOrBelow 51 = .ok (.iinc 2 1, 3) := by decide +kernel
theorem dX8_hasAtOrBelow_54 : decode cX8_hasAtOrBelow 54 = .ok (.goto (-52), 3) := by decide +kernel
theorem dX8_hasAtOrBelow_57 : decode cX8_hasAtOrBelow 57 = .ok (.iconst 0, 1) := by decide +kernel
theorem dX8_hasAtOrBelow_58 : decode cX8_hasAtOrBelow 58 = .ok (.ireturn, 1) := by decide +kernel
theorem dX8_firstNoisy_0 : decode cX8_firstNoisy 0 = .ok (.iconst 0, 1) := by decide +kernel
theorem dX8_firstNoisy_1 : decode cX8_firstNoisy 1 = .ok (.istore_n 1, 1) := by decide +kernel
theorem dX8_firstNoisy_2 : decode cX8_firstNoisy 2 = .ok (.iload_n 1, 1) := by decide +kernel
theorem dX8_firstNoisy_3 : decode cX8_firstNoisy 3 = .ok (.aload_n 0, 1) := by decide +kernel
theorem dX8_firstNoisy_4 : decode cX8_firstNoisy 4 = .ok (.getfield 22, 3) := by decide +kernel
theorem dX8_firstNoisy_7 : decode cX8_firstNoisy 7 = .ok (.if_icmp .ge 41, 3) := by decide +kernel
theorem dX8_firstNoisy_10 : decode cX8_firstNoisy 10 = .ok (.iload_n 1, 1) := by decide +kernel
theorem dX8_firstNoisy_11 : decode cX8_firstNoisy 11 = .ok (.iconst 3, 1) := by decide +kernel
theorem dX8_firstNoisy_12 : decode cX8_firstNoisy 12 = .ok (.if_icmp .ge 36, 3) := by decide +kernel
theorem dX8_firstNoisy_15 : decode cX8_firstNoisy 15 = .ok (.aload_n 0, 1) := by decide +kernel
theorem dX8_firstNoisy_16 : decode cX8_firstNoisy 16 = .ok (.getfield 11, 3) := by decide +kernel
theorem dX8_firstNoisy_19 : decode cX8_firstNoisy 19 = .ok (.iload_n 1, 1) := by decide +kernel
theorem dX8_firstNoisy_20 : decode cX8_firstNoisy 20 = .ok (.aaload, 1) := by decide +kernel
theorem dX8_firstNoisy_21 : decode cX8_firstNoisy 21 = .ok (.astore_n 2, 1) := by decide +kernel
theorem dX8_firstNoisy_22 : decode cX8_firstNoisy 22 = .ok (.aload_n 2, 1) := by decide +kernel
theorem dX8_firstNoisy_23 : decode cX8_firstNoisy 23 = .ok (.ifnull 19, 3) := by decide +kernel
theorem dX8_firstNoisy_26 : decode cX8_firstNoisy 26 = .ok (.aload_n 2, 1) := by decide +kernel
theorem dX8_firstNoisy_27 : decode cX8_firstNoisy 27 = .ok (.getfield 46, 3) := by decide +kernel
theorem dX8_firstNoisy_30 : decode cX8_firstNoisy 30 = .ok (.ifCond .ne 10, 3) := by decide +kernel
theorem dX8_firstNoisy_33 : decode cX8_firstNoisy 33 = .ok (.aload_n 2, 1) := by decide +kernel
theorem dX8_firstNoisy_34 : decode cX8_firstNoisy 34 = .ok (.invokevirtual 50, 3) := by decide +kernel
theorem dX8_firstNoisy_37 : decode cX8_firstNoisy 37 = .ok (.ifCond .eq 5, 3) := by decide +kernel
theorem dX8_firstNoisy_40 : decode cX8_firstNoisy 40 = .ok (.aload_n 2, 1) := by decide +kernel
theorem dX8_firstNoisy_41 : decode cX8_firstNoisy 41 = .ok (.areturn, 1) := by decide +kernel
theorem dX8_firstNoisy_42 : decode cX8_firstNoisy 42 = .ok (.iinc 1 1, 3) := by decide +kernel
theorem dX8_firstNoisy_45 : decode cX8_firstNoisy 45 = .ok (.goto (-43), 3) := by decide +kernel
theorem dX8_firstNoisy_48 : decode cX8_firstNoisy 48 = .ok (.aconst_null, 1) := by decide +kernel
theorem dX8_firstNoisy_49 : decode cX8_firstNoisy 49 = .ok (.areturn, 1) := by decide +kernel
theorem dX8_firstCrawled_0 : decode cX8_firstCrawled 0 = .ok (.iconst 0, 1) := by decide +kernel
theorem dX8_firstCrawled_1 : decode cX8_firstCrawled 1 = .ok (.istore_n 1, 1) := by decide +kernel
theorem dX8_firstCrawled_2 : decode cX8_firstCrawled 2 = .ok (.iload_n 1, 1) := by decide +kernel
theorem dX8_firstCrawled_3 : decode cX8_firstCrawled 3 = .ok (.aload_n 0, 1) := by decide +kernel
theorem dX8_firstCrawled_4 : decode cX8_firstCrawled 4 = .ok (.getfield 22, 3) := by decide +kernel
theorem dX8_firstCrawled_7 : decode cX8_firstCrawled 7 = .ok (.if_icmp .ge 37, 3) := by decide +kernel
theorem dX8_firstCrawled_10 : decode cX8_firstCrawled 10 = .ok (.iload_n 1, 1) := by decide +kernel
theorem dX8_firstCrawled_11 : decode cX8_firstCrawled 11 = .ok (.iconst 3, 1) := by decide +kernel
theorem dX8_firstCrawled_12 : decode cX8_firstCrawled 12 = .ok (.if_icmp .ge 32, 3) := by decide +kernel
theorem dX8_firstCrawled_15 : decode cX8_firstCrawled 15 = .ok (.aload_n 0, 1) := by decide +kernel
theorem dX8_firstCrawled_16 : decode cX8_firstCrawled 16 = .ok (.getfield 11, 3) := by decide +kernel
theorem dX8_firstCrawled_19 : decode cX8_firstCrawled 19 = .ok (.iload_n 1, 1) := by decide +kernel
theorem dX8_firstCrawled_20 : decode cX8_firstCrawled 20 = .ok (.aaload, 1) := by decide +kernel
theorem dX8_firstCrawled_21 : decode cX8_firstCrawled 21 = .ok (.astore_n 2, 1) := by decide +kernel
theorem dX8_firstCrawled_22 : decode cX8_firstCrawled 22 = .ok (.aload_n 2, 1) := by decide +kernel
theorem dX8_firstCrawled_23 : decode cX8_firstCrawled 23 = .ok (.ifnull 15, 3) := by decide +kernel
theorem dX8_firstCrawled_26 : decode cX8_firstCrawled 26 = .ok (.aload_n 2, 1) := by decide +kernel
theorem dX8_firstCrawled_27 : decode cX8_firstCrawled 27 = .ok (.getfield 54, 3) := by decide +kernel
theorem dX8_firstCrawled_30 : decode cX8_firstCrawled 30 = .ok (.getfield 58, 3) := by decide +kernel
theorem dX8_firstCrawled_33 : decode cX8_firstCrawled 33 = .ok (.ifCond .eq 5, 3) := by decide +kernel
theorem dX8_firstCrawled_36 : decode cX8_firstCrawled 36 = .ok (.aload_n 2, 1) := by decide +kernel
theorem dX8_firstCrawled_37 : decode cX8_firstCrawled 37 = .ok (.areturn, 1) := by decide +kernel
theorem dX8_firstCrawled_38 : decode cX8_firstCrawled 38 = .ok (.iinc 1 1, 3) := by decide +kernel
theorem dX8_firstCrawled_41 : decode cX8_firstCrawled 41 = .ok (.goto (-39), 3) := by decide +kernel
theorem dX8_firstCrawled_44 : decode cX8_firstCrawled 44 = .ok (.aconst_null, 1) := by decide +kernel
theorem dX8_firstCrawled_45 : decode cX8_firstCrawled 45 = .ok (.areturn, 1) := by decide +kernel
theorem dX8_countCrawls_0 : decode cX8_countCrawls 0 = .ok (.iconst 0, 1) := by decide +kernel
theorem dX8_countCrawls_1 : decode cX8_countCrawls 1 = .ok (.istore_n 1, 1) := by decide +kernel
theorem dX8_countCrawls_2 : decode cX8_countCrawls 2 = .ok (.iconst 0, 1) := by decide +kernel
theorem dX8_countCrawls_3 : decode cX8_countCrawls 3 = .ok (.istore_n 2, 1) := by decide +kernel
theorem dX8_countCrawls_4 : decode cX8_countCrawls 4 = .ok (.iload_n 2, 1) := by decide +kernel
theorem dX8_countCrawls_5 : decode cX8_countCrawls 5 = .ok (.aload_n 0, 1) := by decide +kernel
theorem dX8_countCrawls_6 : decode cX8_countCrawls 6 = .ok (.getfield 22, 3) := by decide +kernel
theorem dX8_countCrawls_9 : decode cX8_countCrawls 9 = .ok (.if_icmp .ge 38, 3) := by decide +kernel
theorem dX8_countCrawls_12 : decode cX8_countCrawls 12 = .ok (.iload_n 2, 1) := by decide +kernel
theorem dX8_countCrawls_13 : decode cX8_countCrawls 13 = .ok (.iconst 3, 1) := by decide +kernel
theorem dX8_countCrawls_14 : decode cX8_countCrawls 14 = .ok (.if_icmp .ge 33, 3) := by decide +kernel
theorem dX8_countCrawls_17 : decode cX8_countCrawls 17 = .ok (.aload_n 0, 1) := by decide +kernel
theorem dX8_countCrawls_18 : decode cX8_countCrawls 18 = .ok (.getfield 11, 3) := by decide +kernel
theorem dX8_countCrawls_21 : decode cX8_countCrawls 21 = .ok (.iload_n 2, 1) := by decide +kernel
theorem dX8_countCrawls_22 : decode cX8_countCrawls 22 = .ok (.aaload, 1) := by decide +kernel
theorem dX8_countCrawls_23 : decode cX8_countCrawls 23 = .ok (.astore_n 3, 1) := by decide +kernel
theorem dX8_countCrawls_24 : decode cX8_countCrawls 24 = .ok (.aload_n 3, 1) := by decide +kernel
theorem dX8_countCrawls_25 : decode cX8_countCrawls 25 = .ok (.ifnull 16, 3) := by decide +kernel
theorem dX8_countCrawls_28 : decode cX8_countCrawls 28 = .ok (.aload_n 3, 1) := by decide +kernel
theorem dX8_countCrawls_29 : decode cX8_countCrawls 29 = .ok (.getfield 54, 3) := by decide +kernel
theorem dX8_countCrawls_32 : decode cX8_countCrawls 32 = .ok (.getfield 58, 3) := by decide +kernel
theorem dX8_countCrawls_35 : decode cX8_countCrawls 35 = .ok (.ifCond .eq 6, 3) := by decide +kernel
theorem dX8_countCrawls_38 : decode cX8_countCrawls 38 = .ok (.iinc 1 1, 3) := by decide +kernel
theorem dX8_countCrawls_41 : decode cX8_countCrawls 41 = .ok (.iinc 2 1, 3) := by decide +kernel
theorem dX8_countCrawls_44 : decode cX8_countCrawls 44 = .ok (.goto (-40), 3) := by decide +kernel
theorem dX8_countCrawls_47 : decode cX8_countCrawls 47 = .ok (.iload_n 1, 1) := by decide +kernel
theorem dX8_countCrawls_48 : decode cX8_countCrawls 48 = .ok (.ireturn, 1) := by decide +kernel
theorem dX8_tellAbove_0 : decode cX8_tellAbove 0 = .ok (.aload_n 0, 1) := by decide +kernel
theorem dX8_tellAbove_1 : decode cX8_tellAbove 1 = .ok (.iload_n 1, 1) := by decide +kernel
theorem dX8_tellAbove_2 : decode cX8_tellAbove 2 = .ok (.invokevirtual 63, 3) := by decide +kernel
theorem dX8_tellAbove_5 : decode cX8_tellAbove 5 = .ok (.astore_n 3, 1) := by decide +kernel
theorem dX8_tellAbove_6 : decode cX8_tellAbove 6 = .ok (.aload_n 3, 1) := by decide +kernel
theorem dX8_tellAbove_7 : decode cX8_tellAbove 7 = .ok (.ifnull 9, 3) := by decide +kernel
theorem dX8_tellAbove_10 : decode cX8_tellAbove 10 = .ok (.aload_n 3, 1) := by decide +kernel
theorem dX8_tellAbove_11 : decode cX8_tellAbove 11 = .ok (.iload_n 2, 1) := by decide +kernel
theorem dX8_tellAbove_12 : decode cX8_tellAbove 12 = .ok (.iload_n 1, 1) := by decide +kernel
theorem dX8_tellAbove_13 : decode cX8_tellAbove 13 = .ok (.invokevirtual 66, 3) := by decide +kernel
theorem dX8_tellAbove_16 : decode cX8_tellAbove 16 = .ok (.return_, 1) := by decide +kernel
theorem dX8_add_0 : decode cX8_add 0 = .ok (.aload_n 0, 1) := by decide +kernel
theorem dX8_add_1 : decode cX8_add 1 = .ok (.getfield 22, 3) := by decide +kernel
theorem dX8_add_4 : decode cX8_add 4 = .ok (.ifCond .lt 11, 3) := by decide +kernel
theorem dX8_add_7 : decode cX8_add 7 = .ok (.aload_n 0, 1) := by decide +kernel
theorem dX8_add_8 : decode cX8_add 8 = .ok (.getfield 22, 3) := by decide +kernel
theorem dX8_add_11 : decode cX8_add 11 = .ok (.iconst 3, 1) := by decide +kernel
theorem dX8_add_12 : decode cX8_add 12 = .ok (.if_icmp .lt 4, 3) := by decide +kernel
theorem dX8_add_15 : decode cX8_add 15 = .ok (.return_, 1) := by decide +kernel
theorem dX8_add_16 : decode cX8_add 16 = .ok (.aload_n 0, 1) := by decide +kernel
theorem dX8_add_17 : decode cX8_add 17 = .ok (.getfield 11, 3) := by decide +kernel
theorem dX8_add_20 : decode cX8_add 20 = .ok (.aload_n 0, 1) := by decide +kernel
theorem dX8_add_21 : decode cX8_add 21 = .ok (.getfield 22, 3) := by decide +kernel
theorem dX8_add_24 : decode cX8_add 24 = .ok (.aaload, 1) := by decide +kernel
theorem dX8_add_25 : decode cX8_add 25 = .ok (.astore_n 2, 1) := by decide +kernel
theorem dX8_add_26 : decode cX8_add 26 = .ok (.aload_n 2, 1) := by decide +kernel
theorem dX8_add_27 : decode cX8_add 27 = .ok (.ifnull 18, 3) := by decide +kernel
theorem dX8_add_30 : decode cX8_add 30 = .ok (.aload_n 2, 1) := by decide +kernel
theorem dX8_add_31 : decode cX8_add 31 = .ok (.iload_n 1, 1) := by decide +kernel
theorem dX8_add_32 : decode cX8_add 32 = .ok (.invokevirtual 70, 3) := by decide +kernel
theorem dX8_add_35 : decode cX8_add 35 = .ok (.aload_n 0, 1) := by decide +kernel
theorem dX8_add_36 : decode cX8_add 36 = .ok (.dup, 1) := by decide +kernel
theorem dX8_add_37 : decode cX8_add 37 = .ok (.getfield 22, 3) := by decide +kernel
theorem dX8_add_40 : decode cX8_add 40 = .ok (.iconst 1, 1) := by decide +kernel
theorem dX8_add_41 : decode cX8_add 41 = .ok (.iadd, 1) := by decide +kernel
theorem dX8_add_42 : decode cX8_add 42 = .ok (.putfield 22, 3) := by decide +kernel
theorem dX8_add_45 : decode cX8_add 45 = .ok (.return_, 1) := by decide +kernel
theorem dX8_end_0 : decode cX8_end 0 = .ok (.aload_n 0, 1) := by decide +kernel
theorem dX8_end_1 : decode cX8_end 1 = .ok (.iload_n 1, 1) := by decide +kernel
theorem dX8_end_2 : decode cX8_end 2 = .ok (.invokevirtual 29, 3) := by decide +kernel
theorem dX8_end_5 : decode cX8_end 5 = .ok (.astore_n 2, 1) := by decide +kernel
theorem dX8_end_6 : decode cX8_end 6 = .ok (.aload_n 2, 1) := by decide +kernel
theorem dX8_end_7 : decode cX8_end 7 = .ok (.ifnonnull 4, 3) := by decide +kernel
theorem dX8_end_10 : decode cX8_end 10 = .ok (.return_, 1) := by decide +kernel
theorem dX8_end_11 : decode cX8_end 11 = .ok (.iconst 0, 1) := by decide +kernel
theorem dX8_end_12 : decode cX8_end 12 = .ok (.istore_n 3, 1) := by decide +kernel
theorem dX8_end_13 : decode cX8_end 13 = .ok (.iconst 0, 1) := by decide +kernel
theorem dX8_end_14 : decode cX8_end 14 = .ok (.istore 4, 2) := by decide +kernel
theorem dX8_end_16 : decode cX8_end 16 = .ok (.iload 4, 2) := by decide +kernel
theorem dX8_end_18 : decode cX8_end 18 = .ok (.aload_n 0, 1) := by decide +kernel
theorem dX8_end_19 : decode cX8_end 19 = .ok (.getfield 22, 3) := by decide +kernel
theorem dX8_end_22 : decode cX8_end 22 = .ok (.if_icmp .ge 46, 3) := by decide +kernel
theorem dX8_end_25 : decode cX8_end 25 = .ok (.iload 4, 2) := by decide +kernel
theorem dX8_end_27 : decode cX8_end 27 = .ok (.iconst 3, 1) := by decide +kernel
theorem dX8_end_28 : decode cX8_end 28 = .ok (.if_icmp .ge 40, 3) := by decide +kernel
theorem dX8_end_31 : decode cX8_end 31 = .ok (.aload_n 0, 1) := by decide +kernel
theorem dX8_end_32 : decode cX8_end 32 = .ok (.getfield 11, 3) := by decide +kernel
theorem dX8_end_35 : decode cX8_end 35 = .ok (.iload 4, 2) := by decide +kernel
theorem dX8_end_37 : decode cX8_end 37 = .ok (.aaload, 1) := by decide +kernel
theorem dX8_end_38 : decode cX8_end 38 = .ok (.astore 5, 2) := by decide +kernel
theorem dX8_end_40 : decode cX8_end 40 = .ok (.aload 5, 2) := by decide +kernel
theorem dX8_end_42 : decode cX8_end 42 = .ok (.aload_n 2, 1) := by decide +kernel
theorem dX8_end_43 : decode cX8_end 43 = .ok (.if_acmp .eq 19, 3) := by decide +kernel
theorem dX8_end_46 : decode cX8_end 46 = .ok (.iload_n 3, 1) := by decide +kernel
theorem dX8_end_47 : decode cX8_end 47 = .ok (.iconst 3, 1) := by decide +kernel
theorem dX8_end_48 : decode cX8_end 48 = .ok (.if_icmp .ge 14, 3) := by decide +kernel
theorem dX8_end_51 : decode cX8_end 51 = .ok (.aload_n 0, 1) := by decide +kernel
theorem dX8_end_52 : decode cX8_end 52 = .ok (.getfield 11, 3) := by decide +kernel
theorem dX8_end_55 : decode cX8_end 55 = .ok (.iload_n 3, 1) := by decide +kernel
theorem dX8_end_56 : decode cX8_end 56 = .ok (.aload 5, 2) := by decide +kernel
theorem dX8_end_58 : decode cX8_end 58 = .ok (.aastore, 1) := by decide +kernel
theorem dX8_end_59 : decode cX8_end 59 = .ok (.iinc 3 1, 3) := by decide +kernel
theorem dX8_end_62 : decode cX8_end 62 = .ok (.iinc 4 1, 3) := by decide +kernel
theorem dX8_end_65 : decode cX8_end 65 = .ok (.goto (-49), 3) := by decide +kernel
theorem dX8_end_68 : decode cX8_end 68 = .ok (.iload_n 3, 1) := by decide +kernel
theorem dX8_end_69 : decode cX8_end 69 = .ok (.iconst 3, 1) := by decide +kernel
theorem dX8_end_70 : decode cX8_end 70 = .ok (.if_icmp .ge 10, 3) := by decide +kernel
theorem dX8_end_73 : decode cX8_end 73 = .ok (.aload_n 0, 1) := by decide +kernel
theorem dX8_end_74 : decode cX8_end 74 = .ok (.getfield 11, 3) := by decide +kernel
theorem dX8_end_77 : decode cX8_end 77 = .ok (.iload_n 3, 1) := by decide +kernel
theorem dX8_end_78 : decode cX8_end 78 = .ok (.aload_n 2, 1) := by decide +kernel
theorem dX8_end_79 : decode cX8_end 79 = .ok (.aastore, 1) := by decide +kernel
theorem dX8_end_80 : decode cX8_end 80 = .ok (.aload_n 0, 1) := by decide +kernel
theorem dX8_end_81 : decode cX8_end 81 = .ok (.iload_n 3, 1) := by decide +kernel
theorem dX8_end_82 : decode cX8_end 82 = .ok (.putfield 22, 3) := by decide +kernel
theorem dX8_end_85 : decode cX8_end 85 = .ok (.return_, 1) := by decide +kernel
theorem dX8_endGone_0 : decode cX8_endGone 0 = .ok (.iconst 0, 1) := by decide +kernel
theorem dX8_endGone_1 : decode cX8_endGone 1 = .ok (.istore_n 1, 1) := by decide +kernel
theorem dX8_endGone_2 : decode cX8_endGone 2 = .ok (.iconst 2, 1) := by decide +kernel
theorem dX8_endGone_3 : decode cX8_endGone 3 = .ok (.istore_n 2, 1) := by decide +kernel
theorem dX8_endGone_4 : decode cX8_endGone 4 = .ok (.iload_n 2, 1) := by decide +kernel
theorem dX8_endGone_5 : decode cX8_endGone 5 = .ok (.ifCond .lt 52, 3) := by decide +kernel
theorem dX8_endGone_8 : decode cX8_endGone 8 = .ok (.aload_n 0, 1) := by decide +kernel
theorem dX8_endGone_9 : decode cX8_endGone 9 = .ok (.getfield 11, 3) := by decide +kernel
theorem dX8_endGone_12 : decode cX8_endGone 12 = .ok (.iload_n 2, 1) := by decide +kernel
theorem dX8_endGone_13 : decode cX8_endGone 13 = .ok (.aaload, 1) := by decide +kernel
theorem dX8_endGone_14 : decode cX8_endGone 14 = .ok (.astore_n 3, 1) := by decide +kernel
theorem dX8_endGone_15 : decode cX8_endGone 15 = .ok (.iload_n 2, 1) := by decide +kernel
theorem dX8_endGone_16 : decode cX8_endGone 16 = .ok (.aload_n 0, 1) := by decide +kernel
theorem dX8_endGone_17 : decode cX8_endGone 17 = .ok (.getfield 22, 3) := by decide +kernel
theorem dX8_endGone_20 : decode cX8_endGone 20 = .ok (.if_icmp .ge 31, 3) := by decide +kernel
theorem dX8_endGone_23 : decode cX8_endGone 23 = .ok (.aload_n 3, 1) := by decide +kernel
theorem dX8_endGone_24 : decode cX8_endGone 24 = .ok (.ifnull 27, 3) := by decide +kernel
theorem dX8_endGone_27 : decode cX8_endGone 27 = .ok (.aload_n 0, 1) := by decide +kernel
theorem dX8_endGone_28 : decode cX8_endGone 28 = .ok (.getfield 17, 3) := by decide +kernel
theorem dX8_endGone_31 : decode cX8_endGone 31 = .ok (.aload_n 3, 1) := by decide +kernel
theorem dX8_endGone_32 : decode cX8_endGone 32 = .ok (.getfield 26, 3) := by decide +kernel
theorem dX8_endGone_35 : decode cX8_endGone 35 = .ok (.invokevirtual 74, 3) := by decide +kernel
theorem dX8_endGone_38 : decode cX8_endGone 38 = .ok (.ifCond .ne 13, 3) := by decide +kernel
theorem dX8_endGone_41 : decode cX8_endGone 41 = .ok (.aload_n 0, 1) := by decide +kernel
theorem dX8_endGone_42 : decode cX8_endGone 42 = .ok (.aload_n 3, 1) := by decide +kernel
theorem dX8_endGone_43 : decode cX8_endGone 43 = .ok (.getfield 26, 3) := by decide +kernel
theorem dX8_endGone_46 : decode cX8_endGone 46 = .ok (.invokevirtual 78, 3) := by decide +kernel
theorem dX8_endGone_49 : decode cX8_endGone 49 = .ok (.iconst 1, 1) := by decide +kernel
theorem dX8_endGone_50 : decode cX8_endGone 50 = .ok (.istore_n 1, 1) := by decide +kernel
theorem dX8_endGone_51 : decode cX8_endGone 51 = .ok (.iinc 2 (-1), 3) := by decide +kernel
theorem dX8_endGone_54 : decode cX8_endGone 54 = .ok (.goto (-50), 3) := by decide +kernel
theorem dX8_endGone_57 : decode cX8_endGone 57 = .ok (.iload_n 1, 1) := by decide +kernel
theorem dX8_endGone_58 : decode cX8_endGone 58 = .ok (.ireturn, 1) := by decide +kernel
theorem dX9_wasMade_0 : decode cX9_wasMade 0 = .ok (.iload_n 1, 1) := by decide +kernel
theorem dX9_wasMade_1 : decode cX9_wasMade 1 = .ok (.ifCond .lt 15, 3) := by decide +kernel
theorem dX9_wasMade_4 : decode cX9_wasMade 4 = .ok (.iload_n 1, 1) := by decide +kernel
theorem dX9_wasMade_5 : decode cX9_wasMade 5 = .ok (.aload_n 0, 1) := by decide +kernel
theorem dX9_wasMade_6 : decode cX9_wasMade 6 = .ok (.getfield 43, 3) := by decide +kernel
theorem dX9_wasMade_9 : decode cX9_wasMade 9 = .ok (.if_icmp .ge 7, 3) := by decide +kernel
theorem dX9_wasMade_12 : decode cX9_wasMade 12 = .ok (.iconst 1, 1) := by decide +kernel
theorem dX9_wasMade_13 : decode cX9_wasMade 13 = .ok (.goto 4, 3) := by decide +kernel
theorem dX9_wasMade_16 : decode cX9_wasMade 16 = .ok (.iconst 0, 1) := by decide +kernel
theorem dX9_wasMade_17 : decode cX9_wasMade 17 = .ok (.ireturn, 1) := by decide +kernel
theorem dX9_isThere_0 : decode cX9_isThere 0 = .ok (.iload_n 1, 1) := by decide +kernel
theorem dX9_isThere_1 : decode cX9_isThere 1 = .ok (.ifCond .lt 22, 3) := by decide +kernel
theorem dX9_isThere_4 : decode cX9_isThere 4 = .ok (.iload_n 1, 1) := by decide +kernel
theorem dX9_isThere_5 : decode cX9_isThere 5 = .ok (.bipush 60, 2) := by decide +kernel
theorem dX9_isThere_7 : decode cX9_isThere 7 = .ok (.if_icmp .ge 16, 3) := by decide +kernel
theorem dX9_isThere_10 : decode cX9_isThere 10 = .ok (.aload_n 0, 1) := by decide +kernel
theorem dX9_isThere_11 : decode cX9_isThere 11 = .ok (.getfield 23, 3) := by decide +kernel
theorem dX9_isThere_14 : decode cX9_isThere 14 = .ok (.iload_n 1, 1) := by decide +kernel
theorem dX9_isThere_15 : decode cX9_isThere 15 = .ok (.baload, 1) := by decide +kernel
theorem dX9_isThere_16 : decode cX9_isThere 16 = .ok (.ifCond .eq 7, 3) := by decide +kernel
theorem dX9_isThere_19 : decode cX9_isThere 19 = .ok (.iconst 1, 1) := by decide +kernel
theorem dX9_isThere_20 : decode cX9_isThere 20 = .ok (.goto 4, 3) := by decide +kernel
theorem dX9_isThere_23 : decode cX9_isThere 23 = .ok (.iconst 0, 1) := by decide +kernel
theorem dX9_isThere_24 : decode cX9_isThere 24 = .ok (.ireturn, 1) := by decide +kernel
theorem dX9_isFolder_0 : decode cX9_isFolder 0 = .ok (.iload_n 1, 1) := by decide +kernel
theorem dX9_isFolder_1 : decode cX9_isFolder 1 = .ok (.ifCond .lt 31, 3) := by decide +kernel
theorem dX9_isFolder_4 : decode cX9_isFolder 4 = .ok (.iload_n 1, 1) := by decide +kernel
theorem dX9_isFolder_5 : decode cX9_isFolder 5 = .ok (.bipush 60, 2) := by decide +kernel
theorem dX9_isFolder_7 : decode cX9_isFolder 7 = .ok (.if_icmp .ge 25, 3) := by decide +kernel
theorem dX9_isFolder_10 : decode cX9_isFolder 10 = .ok (.aload_n 0, 1) := by decide +kernel
theorem dX9_isFolder_11 : decode cX9_isFolder 11 = .ok (.getfield 23, 3) := by decide +kernel
theorem dX9_isFolder_14 : decode cX9_isFolder 14 = .ok (.iload_n 1, 1) := by decide +kernel
theorem dX9_isFolder_15 : decode cX9_isFolder 15 = .ok (.baload, 1) := by decide +kernel
theorem dX9_isFolder_16 : decode cX9_isFolder 16 = .ok (.ifCond .eq 16, 3) := by decide +kernel
theorem dX9_isFolder_19 : decode cX9_isFolder 19 = .ok (.aload_n 0, 1) := by decide +kernel
theorem dX9_isFolder_20 : decode cX9_isFolder 20 = .ok (.getfield 19, 3) := by decide +kernel
theorem dX9_isFolder_23 : decode cX9_isFolder 23 = .ok (.iload_n 1, 1) := by decide +kernel
theorem dX9_isFolder_24 : decode cX9_isFolder 24 = .ok (.baload, 1) := by decide +kernel
theorem dX9_isFolder_25 : decode cX9_isFolder 25 = .ok (.ifCond .eq 7, 3) := by decide +kernel
theorem dX9_isFolder_28 : decode cX9_isFolder 28 = .ok (.iconst 1, 1) := by decide +kernel
theorem dX9_isFolder_29 : decode cX9_isFolder 29 = .ok (.goto 4, 3) := by decide +kernel
theorem dX9_isFolder_32 : decode cX9_isFolder 32 = .ok (.iconst 0, 1) := by decide +kernel
theorem dX9_isFolder_33 : decode cX9_isFolder 33 = .ok (.ireturn, 1) := by decide +kernel
theorem dX9_isFile_0 : decode cX9_isFile 0 = .ok (.iload_n 1, 1) := by decide +kernel
theorem dX9_isFile_1 : decode cX9_isFile 1 = .ok (.ifCond .lt 31, 3) := by decide +kernel
theorem dX9_isFile_4 : decode cX9_isFile 4 = .ok (.iload_n 1, 1) := by decide +kernel
theorem dX9_isFile_5 : decode cX9_isFile 5 = .ok (.bipush 60, 2) := by decide +kernel
theorem dX9_isFile_7 : decode cX9_isFile 7 = .ok (.if_icmp .ge 25, 3) := by decide +kernel
theorem dX9_isFile_10 : decode cX9_isFile 10 = .ok (.aload_n 0, 1) := by decide +kernel
theorem dX9_isFile_11 : decode cX9_isFile 11 = .ok (.getfield 23, 3) := by decide +kernel
theorem dX9_isFile_14 : decode cX9_isFile 14 = .ok (.iload_n 1, 1) := by decide +kernel
theorem dX9_isFile_15 : decode cX9_isFile 15 = .ok (.baload, 1) := by decide +kernel
theorem dX9_isFile_16 : decode cX9_isFile 16 = .ok (.ifCond .eq 16, 3) := by decide +kernel
theorem dX9_isFile_19 : decode cX9_isFile 19 = .ok (.aload_n 0, 1) := by decide +kernel
theorem dX9_isFile_20 : decode cX9_isFile 20 = .ok (.getfield 19, 3) := by decide +kernel
theorem dX9_isFile_23 : decode cX9_isFile 23 = .ok (.iload_n 1, 1) := by decide +kernel
theorem dX9_isFile_24 : decode cX9_isFile 24 = .ok (.baload, 1) := by decide +kernel
theorem dX9_isFile_25 : decode cX9_isFile 25 = .ok (.ifCond .ne 7, 3) := by decide +kernel
theorem dX9_isFile_28 : decode cX9_isFile 28 = .ok (.iconst 1, 1) := by decide +kernel
theorem dX9_isFile_29 : decode cX9_isFile 29 = .ok (.goto 4, 3) := by decide +kernel
theorem dX9_isFile_32 : decode cX9_isFile 32 = .ok (.iconst 0, 1) := by decide +kernel
theorem dX9_isFile_33 : decode cX9_isFile 33 = .ok (.ireturn, 1) := by decide +kernel
theorem dX9_isLocked_0 : decode cX9_isLocked 0 = .ok (.iload_n 1, 1) := by decide +kernel
theorem dX9_isLocked_1 : decode cX9_isLocked 1 = .ok (.ifCond .lt 22, 3) := by decide +kernel
theorem dX9_isLocked_4 : decode cX9_isLocked 4 = .ok (.iload_n 1, 1) := by decide +kernel
theorem dX9_isLocked_5 : decode cX9_isLocked 5 = .ok (.bipush 60, 2) := by decide +kernel
theorem dX9_isLocked_7 : decode cX9_isLocked 7 = .ok (.if_icmp .ge 16, 3) := by decide +kernel
theorem dX9_isLocked_10 : decode cX9_isLocked 10 = .ok (.aload_n 0, 1) := by decide +kernel
theorem dX9_isLocked_11 : decode cX9_isLocked 11 = .ok (.getfield 26, 3) := by decide +kernel
theorem dX9_isLocked_14 : decode cX9_isLocked 14 = .ok (.iload_n 1, 1) := by decide +kernel
theorem dX9_isLocked_15 : decode cX9_isLocked 15 = .ok (.baload, 1) := by decide +kernel
theorem dX9_isLocked_16 : decode cX9_isLocked 16 = .ok (.ifCond .eq 7, 3) := by decide +kernel
theorem dX9_isLocked_19 : decode cX9_isLocked 19 = .ok (.iconst 1, 1) := by decide +kernel
theorem dX9_isLocked_20 : decode cX9_isLocked 20 = .ok (.goto 4, 3) := by decide +kernel
theorem dX9_isLocked_23 : decode cX9_isLocked 23 = .ok (.iconst 0, 1) := by decide +kernel
theorem dX9_isLocked_24 : decode cX9_isLocked 24 = .ok (.ireturn, 1) := by decide +kernel
theorem dX9_isFull_0 : decode cX9_isFull 0 = .ok (.aload_n 0, 1) := by decide +kernel
theorem dX9_isFull_1 : decode cX9_isFull 1 = .ok (.getfield 43, 3) := by decide +kernel
theorem dX9_isFull_4 : decode cX9_isFull 4 = .ok (.bipush 60, 2) := by decide +kernel
theorem dX9_isFull_6 : decode cX9_isFull 6 = .ok (.if_icmp .lt 7, 3) := by decide +kernel
theorem dX9_isFull_9 : decode cX9_isFull 9 = .ok (.iconst 1, 1) := by decide +kernel
theorem dX9_isFull_10 : decode cX9_isFull 10 = .ok (.goto 4, 3) := by decide +kernel
theorem dX9_isFull_13 : decode cX9_isFull 13 = .ok (.iconst 0, 1) := by decide +kernel
theorem dX9_isFull_14 : decode cX9_isFull 14 = .ok (.ireturn, 1) := by decide +kernel
theorem dX9_parentOf_0 : decode cX9_parentOf 0 = .ok (.iload_n 1, 1) := by decide +kernel
theorem dX9_parentOf_1 : decode cX9_parentOf 1 = .ok (.ifCond .lt 18, 3) := by decide +kernel
theorem dX9_parentOf_4 : decode cX9_parentOf 4 = .ok (.iload_n 1, 1) := by decide +kernel
theorem dX9_parentOf_5 : decode cX9_parentOf 5 = .ok (.bipush 60, 2) := by decide +kernel
theorem dX9_parentOf_7 : decode cX9_parentOf 7 = .ok (.if_icmp .ge 12, 3) := by decide +kernel
theorem dX9_parentOf_10 : decode cX9_parentOf 10 = .ok (.aload_n 0, 1) := by decide +kernel
theorem dX9_parentOf_11 : decode cX9_parentOf 11 = .ok (.getfield 9, 3) := by decide +kernel
theorem dX9_parentOf_14 : decode cX9_parentOf 14 = .ok (.iload_n 1, 1) := by decide +kernel
theorem dX9_parentOf_15 : decode cX9_parentOf 15 = .ok (.iaload, 1) := by decide +kernel
theorem dX9_parentOf_16 : decode cX9_parentOf 16 = .ok (.goto 4, 3) := by decide +kernel
theorem dX9_parentOf_19 : decode cX9_parentOf 19 = .ok (.iconst (-1), 1) := by decide +kernel
theorem dX9_parentOf_20 : decode cX9_parentOf 20 = .ok (.ireturn, 1) := by decide +kernel
theorem dX9_nameOf_0 : decode cX9_nameOf 0 = .ok (.iload_n 1, 1) := by decide +kernel
theorem dX9_nameOf_1 : decode cX9_nameOf 1 = .ok (.ifCond .lt 18, 3) := by decide +kernel
theorem dX9_nameOf_4 : decode cX9_nameOf 4 = .ok (.iload_n 1, 1) := by decide +kernel
theorem dX9_nameOf_5 : decode cX9_nameOf 5 = .ok (.bipush 60, 2) := by decide +kernel
theorem dX9_nameOf_7 : decode cX9_nameOf 7 = .ok (.if_icmp .ge 12, 3) := by decide +kernel
theorem dX9_nameOf_10 : decode cX9_nameOf 10 = .ok (.aload_n 0, 1) := by decide +kernel
theorem dX9_nameOf_11 : decode cX9_nameOf 11 = .ok (.getfield 15, 3) := by decide +kernel
theorem dX9_nameOf_14 : decode cX9_nameOf 14 = .ok (.iload_n 1, 1) := by decide +kernel
theorem dX9_nameOf_15 : decode cX9_nameOf 15 = .ok (.caload, 1) := by decide +kernel
theorem dX9_nameOf_16 : decode cX9_nameOf 16 = .ok (.goto 5, 3) := by decide +kernel
theorem dX9_nameOf_19 : decode cX9_nameOf 19 = .ok (.bipush 32, 2) := by decide +kernel
theorem dX9_nameOf_21 : decode cX9_nameOf 21 = .ok (.ireturn, 1) := by decide +kernel
theorem dX9_peopleOf_0 : decode cX9_peopleOf 0 = .ok (.iload_n 1, 1) := by decide +kernel
theorem dX9_peopleOf_1 : decode cX9_peopleOf 1 = .ok (.ifCond .lt 18, 3) := by decide +kernel
theorem dX9_peopleOf_4 : decode cX9_peopleOf 4 = .ok (.iload_n 1, 1) := by decide +kernel
theorem dX9_peopleOf_5 : decode cX9_peopleOf 5 = .ok (.bipush 60, 2) := by decide +kernel
theorem dX9_peopleOf_7 : decode cX9_peopleOf 7 = .ok (.if_icmp .ge 12, 3) := by decide +kernel
theorem dX9_peopleOf_10 : decode cX9_peopleOf 10 = .ok (.aload_n 0, 1) := by decide +kernel
theorem dX9_peopleOf_11 : decode cX9_peopleOf 11 = .ok (.getfield 29, 3) := by decide +kernel
theorem dX9_peopleOf_14 : decode cX9_peopleOf 14 = .ok (.iload_n 1, 1) := by decide +kernel
theorem dX9_peopleOf_15 : decode cX9_peopleOf 15 = .ok (.iaload, 1) := by decide +kernel
theorem dX9_peopleOf_16 : decode cX9_peopleOf 16 = .ok (.goto 4, 3) := by decide +kernel
theorem dX9_peopleOf_19 : decode cX9_peopleOf 19 = .ok (.iconst 0, 1) := by decide +kernel
theorem dX9_peopleOf_20 : decode cX9_peopleOf 20 = .ok (.ireturn, 1) := by decide +kernel
theorem dX9_editionOf_0 : decode cX9_editionOf 0 = .ok (.iload_n 1, 1) := by decide +kernel
theorem dX9_editionOf_1 : decode cX9_editionOf 1 = .ok (.ifCond .lt 18, 3) := by decide +kernel
theorem dX9_editionOf_4 : decode cX9_editionOf 4 = .ok (.iload_n 1, 1) := by decide +kernel
theorem dX9_editionOf_5 : decode cX9_editionOf 5 = .ok (.bipush 60, 2) := by decide +kernel
theorem dX9_editionOf_7 : decode cX9_editionOf 7 = .ok (.if_icmp .ge 12, 3) := by decide +kernel
theorem dX9_editionOf_10 : decode cX9_editionOf 10 = .ok (.aload_n 0, 1) := by decide +kernel
theorem dX9_editionOf_11 : decode cX9_editionOf 11 = .ok (.getfield 32, 3) := by decide +kernel
theorem dX9_editionOf_14 : decode cX9_editionOf 14 = .ok (.iload_n 1, 1) := by decide +kernel
theorem dX9_editionOf_15 : decode cX9_editionOf 15 = .ok (.iaload, 1) := by decide +kernel
theorem dX9_editionOf_16 : decode cX9_editionOf 16 = .ok (.goto 4, 3) := by decide +kernel
theorem dX9_editionOf_19 : decode cX9_editionOf 19 = .ok (.iconst 0, 1) := by decide +kernel
theorem dX9_editionOf_20 : decode cX9_editionOf 20 = .ok (.ireturn, 1) := by decide +kernel
theorem dX9_lengthOf_0 : decode cX9_lengthOf 0 = .ok (.iload_n 1, 1) := by decide +kernel
theorem dX9_lengthOf_1 : decode cX9_lengthOf 1 = .ok (.ifCond .lt 18, 3) := by decide +kernel
theorem dX9_lengthOf_4 : decode cX9_lengthOf 4 = .ok (.iload_n 1, 1) := by decide +kernel
theorem dX9_lengthOf_5 : decode cX9_lengthOf 5 = .ok (.bipush 60, 2) := by decide +kernel
theorem dX9_lengthOf_7 : decode cX9_lengthOf 7 = .ok (.if_icmp .ge 12, 3) := by decide +kernel
theorem dX9_lengthOf_10 : decode cX9_lengthOf 10 = .ok (.aload_n 0, 1) := by decide +kernel
theorem dX9_lengthOf_11 : decode cX9_lengthOf 11 = .ok (.getfield 35, 3) := by decide +kernel
theorem dX9_lengthOf_14 : decode cX9_lengthOf 14 = .ok (.iload_n 1, 1) := by decide +kernel
theorem dX9_lengthOf_15 : decode cX9_lengthOf 15 = .ok (.iaload, 1) := by decide +kernel
theorem dX9_lengthOf_16 : decode cX9_lengthOf 16 = .ok (.goto 4, 3) := by decide +kernel
theorem dX9_lengthOf_19 : decode cX9_lengthOf 19 = .ok (.iconst 0, 1) := by decide +kernel
theorem dX9_lengthOf_20 : decode cX9_lengthOf 20 = .ok (.ireturn, 1) := by decide +kernel
theorem dX9_textOf_0 : decode cX9_textOf 0 = .ok (.aload_n 0, 1) := by decide +kernel
theorem dX9_textOf_1 : decode cX9_textOf 1 = .ok (.getfield 40, 3) := by decide +kernel
theorem dX9_textOf_4 : decode cX9_textOf 4 = .ok (.iload_n 1, 1) := by decide +kernel
theorem dX9_textOf_5 : decode cX9_textOf 5 = .ok (.ifCond .lt 13, 3) := by decide +kernel
theorem dX9_textOf_8 : decode cX9_textOf 8 = .ok (.iload_n 1, 1) := by decide +kernel
theorem dX9_textOf_9 : decode cX9_textOf 9 = .ok (.bipush 60, 2) := by decide +kernel
theorem dX9_textOf_11 : decode cX9_textOf 11 = .ok (.if_icmp .ge 7, 3) := by decide +kernel
theorem dX9_textOf_14 : decode cX9_textOf 14 = .ok (.iload_n 1, 1) := by decide +kernel
theorem dX9_textOf_15 : decode cX9_textOf 15 = .ok (.goto 4, 3) := by decide +kernel
theorem dX9_textOf_18 : decode cX9_textOf 18 = .ok (.iconst 0, 1) := by decide +kernel
theorem dX9_textOf_19 : decode cX9_textOf 19 = .ok (.aaload, 1) := by decide +kernel
theorem dX9_textOf_20 : decode cX9_textOf 20 = .ok (.areturn, 1) := by decide +kernel
theorem dX9_findIn_0 : decode cX9_findIn 0 = .ok (.iconst 0, 1) := by decide +kernel
theorem dX9_findIn_1 : decode cX9_findIn 1 = .ok (.istore_n 3, 1) := by decide +kernel
theorem dX9_findIn_2 : decode cX9_findIn 2 = .ok (.iload_n 3, 1) := by decide +kernel
theorem dX9_findIn_3 : decode cX9_findIn 3 = .ok (.bipush 60, 2) := by decide +kernel
theorem dX9_findIn_5 : decode cX9_findIn 5 = .ok (.if_icmp .ge 40, 3) := by decide +kernel
theorem dX9_findIn_8 : decode cX9_findIn 8 = .ok (.aload_n 0, 1) := by decide +kernel
theorem dX9_findIn_9 : decode cX9_findIn 9 = .ok (.getfield 23, 3) := by decide +kernel
theorem dX9_findIn_12 : decode cX9_findIn 12 = .ok (.iload_n 3, 1) := by decide +kernel
theorem dX9_findIn_13 : decode cX9_findIn 13 = .ok (.baload, 1) := by decide +kernel
theorem dX9_findIn_14 : decode cX9_findIn 14 = .ok (.ifCond .eq 25, 3) := by decide +kernel
theorem dX9_findIn_17 : decode cX9_findIn 17 = .ok (.aload_n 0, 1) := by decide +kernel
theorem dX9_findIn_18 : decode cX9_findIn 18 = .ok (.getfield 9, 3) := by decide +kernel
theorem dX9_findIn_21 : decode cX9_findIn 21 = .ok (.iload_n 3, 1) := by decide +kernel
theorem dX9_findIn_22 : decode cX9_findIn 22 = .ok (.iaload, 1) := by decide +kernel
theorem dX9_findIn_23 : decode cX9_findIn 23 = .ok (.iload_n 1, 1) := by decide +kernel
theorem dX9_findIn_24 : decode cX9_findIn 24 = .ok (.if_icmp .ne 15, 3) := by decide +kernel
theorem dX9_findIn_27 : decode cX9_findIn 27 = .ok (.aload_n 0, 1) := by decide +kernel
theorem dX9_findIn_28 : decode cX9_findIn 28 = .ok (.getfield 15, 3) := by decide +kernel
theorem dX9_findIn_31 : decode cX9_findIn 31 = .ok (.iload_n 3, 1) := by decide +kernel
theorem dX9_findIn_32 : decode cX9_findIn 32 = .ok (.caload, 1) := by decide +kernel
theorem dX9_findIn_33 : decode cX9_findIn 33 = .ok (.iload_n 2, 1) := by decide +kernel
theorem dX9_findIn_34 : decode cX9_findIn 34 = .ok (.if_icmp .ne 5, 3) := by decide +kernel
theorem dX9_findIn_37 : decode cX9_findIn 37 = .ok (.iload_n 3, 1) := by decide +kernel
theorem dX9_findIn_38 : decode cX9_findIn 38 = .ok (.ireturn, 1) := by decide +kernel
theorem dX9_findIn_39 : decode cX9_findIn 39 = .ok (.iinc 3 1, 3) := by decide +kernel
theorem dX9_findIn_42 : decode cX9_findIn 42 = .ok (.goto (-40), 3) := by decide +kernel
theorem dX9_findIn_45 : decode cX9_findIn 45 = .ok (.iconst (-1), 1) := by decide +kernel
theorem dX9_findIn_46 : decode cX9_findIn 46 = .ok (.ireturn, 1) := by decide +kernel
theorem dX9_isBelow_0 : decode cX9_isBelow 0 = .ok (.aload_n 0, 1) := by decide +kernel
theorem dX9_isBelow_1 : decode cX9_isBelow 1 = .ok (.iload_n 1, 1) := by decide +kernel
theorem dX9_isBelow_2 : decode cX9_isBelow 2 = .ok (.invokevirtual 47, 3) := by decide +kernel
theorem dX9_isBelow_5 : decode cX9_isBelow 5 = .ok (.istore_n 3, 1) := by decide +kernel
theorem dX9_isBelow_6 : decode cX9_isBelow 6 = .ok (.iconst 0, 1) := by decide +kernel
theorem dX9_isBelow_7 : decode cX9_isBelow 7 = .ok (.istore 4, 2) := by decide +kernel
theorem dX9_isBelow_9 : decode cX9_isBelow 9 = .ok (.iload 4, 2) := by decide +kernel
theorem dX9_isBelow_11 : decode cX9_isBelow 11 = .ok (.bipush 60, 2) := by decide +kernel
theorem dX9_isBelow_13 : decode cX9_isBelow 13 = .ok (.if_icmp .ge 27, 3) := by decide +kernel
theorem dX9_isBelow_16 : decode cX9_isBelow 16 = .ok (.iload_n 3, 1) := by decide +kernel
theorem dX9_isBelow_17 : decode cX9_isBelow 17 = .ok (.iconst (-1), 1) := by decide +kernel
theorem dX9_isBelow_18 : decode cX9_isBelow 18 = .ok (.if_icmp .eq 22, 3) := by decide +kernel
theorem dX9_isBelow_21 : decode cX9_isBelow 21 = .ok (.iload_n 3, 1) := by decide +kernel
theorem dX9_isBelow_22 : decode cX9_isBelow 22 = .ok (.iload_n 2, 1) := by decide +kernel
theorem dX9_isBelow_23 : decode cX9_isBelow 23 = .ok (.if_icmp .ne 5, 3) := by decide +kernel
theorem dX9_isBelow_26 : decode cX9_isBelow 26 = .ok (.iconst 1, 1) := by decide +kernel
theorem dX9_isBelow_27 : decode cX9_isBelow 27 = .ok (.ireturn, 1) := by decide +kernel
theorem dX9_isBelow_28 : decode cX9_isBelow 28 = .ok (.aload_n 0, 1) := by decide +kernel
theorem dX9_isBelow_29 : decode cX9_isBelow 29 = .ok (.iload_n 3, 1) := by decide +kernel
theorem dX9_isBelow_30 : decode cX9_isBelow 30 = .ok (.invokevirtual 47, 3) := by decide +kernel
theorem dX9_isBelow_33 : decode cX9_isBelow 33 = .ok (.istore_n 3, 1) := by decide +kernel
theorem dX9_isBelow_34 : decode cX9_isBelow 34 = .ok (.iinc 4 1, 3) := by decide +kernel
theorem dX9_isBelow_37 : decode cX9_isBelow 37 = .ok (.goto (-28), 3) := by decide +kernel
theorem dX9_isBelow_40 : decode cX9_isBelow 40 = .ok (.iconst 0, 1) := by decide +kernel
theorem dX9_isBelow_41 : decode cX9_isBelow 41 = .ok (.ireturn, 1) := by decide +kernel
theorem dX9_isOpenTo_0 : decode cX9_isOpenTo 0 = .ok (.iload_n 2, 1) := by decide +kernel
theorem dX9_isOpenTo_1 : decode cX9_isOpenTo 1 = .ok (.istore_n 3, 1) := by decide +kernel
theorem dX9_isOpenTo_2 : decode cX9_isOpenTo 2 = .ok (.iconst 0, 1) := by decide +kernel
theorem dX9_isOpenTo_3 : decode cX9_isOpenTo 3 = .ok (.istore 4, 2) := by decide +kernel
theorem dX9_isOpenTo_5 : decode cX9_isOpenTo 5 = .ok (.iload 4, 2) := by decide +kernel
theorem dX9_isOpenTo_7 : decode cX9_isOpenTo 7 = .ok (.bipush 60, 2) := by decide +kernel
theorem dX9_isOpenTo_9 : decode cX9_isOpenTo 9 = .ok (.if_icmp .ge 34, 3) := by decide +kernel
theorem dX9_isOpenTo_12 : decode cX9_isOpenTo 12 = .ok (.iload_n 3, 1) := by decide +kernel
theorem dX9_isOpenTo_13 : decode cX9_isOpenTo 13 = .ok (.iconst (-1), 1) := by decide +kernel
theorem dX9_isOpenTo_14 : decode cX9_isOpenTo 14 = .ok (.if_icmp .eq 29, 3) := by decide +kernel
theorem dX9_isOpenTo_17 : decode cX9_isOpenTo 17 = .ok (.aload_n 0, 1) := by decide +kernel
theorem dX9_isOpenTo_18 : decode cX9_isOpenTo 18 = .ok (.iload_n 3, 1) := by decide +kernel
theorem dX9_isOpenTo_19 : decode cX9_isOpenTo 19 = .ok (.invokevirtual 51, 3) := by decide +kernel
theorem dX9_isOpenTo_22 : decode cX9_isOpenTo 22 = .ok (.iload_n 1, 1) := by decide +kernel
theorem dX9_isOpenTo_23 : decode cX9_isOpenTo 23 = .ok (.ishr, 1) := by decide +kernel
theorem dX9_isOpenTo_24 : decode cX9_isOpenTo 24 = .ok (.iconst 1, 1) := by decide +kernel
theorem dX9_isOpenTo_25 : decode cX9_isOpenTo 25 = .ok (.iand, 1) := by decide +kernel
theorem dX9_isOpenTo_26 : decode cX9_isOpenTo 26 = .ok (.ifCond .ne 5, 3) := by decide +kernel
theorem dX9_isOpenTo_29 : decode cX9_isOpenTo 29 = .ok (.iconst 0, 1) := by decide +kernel
theorem dX9_isOpenTo_30 : decode cX9_isOpenTo 30 = .ok (.ireturn, 1) := by decide +kernel
theorem dX9_isOpenTo_31 : decode cX9_isOpenTo 31 = .ok (.aload_n 0, 1) := by decide +kernel
theorem dX9_isOpenTo_32 : decode cX9_isOpenTo 32 = .ok (.iload_n 3, 1) := by decide +kernel
theorem dX9_isOpenTo_33 : decode cX9_isOpenTo 33 = .ok (.invokevirtual 47, 3) := by decide +kernel
theorem dX9_isOpenTo_36 : decode cX9_isOpenTo 36 = .ok (.istore_n 3, 1) := by decide +kernel
theorem dX9_isOpenTo_37 : decode cX9_isOpenTo 37 = .ok (.iinc 4 1, 3) := by decide +kernel
theorem dX9_isOpenTo_40 : decode cX9_isOpenTo 40 = .ok (.goto (-35), 3) := by decide +kernel
theorem dX9_isOpenTo_43 : decode cX9_isOpenTo 43 = .ok (.iconst 1, 1) := by decide +kernel
theorem dX9_isOpenTo_44 : decode cX9_isOpenTo 44 = .ok (.ireturn, 1) := by decide +kernel
theorem dX9_countThere_0 : decode cX9_countThere 0 = .ok (.iconst 0, 1) := by decide +kernel
theorem dX9_countThere_1 : decode cX9_countThere 1 = .ok (.istore_n 1, 1) := by decide +kernel
theorem dX9_countThere_2 : decode cX9_countThere 2 = .ok (.iconst 0, 1) := by decide +kernel
theorem dX9_countThere_3 : decode cX9_countThere 3 = .ok (.istore_n 2, 1) := by decide +kernel
theorem dX9_countThere_4 : decode cX9_countThere 4 = .ok (.iload_n 2, 1) := by decide +kernel
theorem dX9_countThere_5 : decode cX9_countThere 5 = .ok (.bipush 60, 2) := by decide +kernel
theorem dX9_countThere_7 : decode cX9_countThere 7 = .ok (.if_icmp .ge 21, 3) := by decide +kernel
theorem dX9_countThere_10 : decode cX9_countThere 10 = .ok (.aload_n 0, 1) := by decide +kernel
theorem dX9_countThere_11 : decode cX9_countThere 11 = .ok (.getfield 23, 3) := by decide +kernel
theorem dX9_countThere_14 : decode cX9_countThere 14 = .ok (.iload_n 2, 1) := by decide +kernel
theorem dX9_countThere_15 : decode cX9_countThere 15 = .ok (.baload, 1) := by decide +kernel
theorem dX9_countThere_16 : decode cX9_countThere 16 = .ok (.ifCond .eq 6, 3) := by decide +kernel
theorem dX9_countThere_19 : decode cX9_countThere 19 = .ok (.iinc 1 1, 3) := by decide +kernel
theorem dX9_countThere_22 : decode cX9_countThere 22 = .ok (.iinc 2 1, 3) := by decide +kernel
theorem dX9_countThere_25 : decode cX9_countThere 25 = .ok (.goto (-21), 3) := by decide +kernel
theorem dX9_countThere_28 : decode cX9_countThere 28 = .ok (.iload_n 1, 1) := by decide +kernel
theorem dX9_countThere_29 : decode cX9_countThere 29 = .ok (.ireturn, 1) := by decide +kernel
theorem dX9_add_0 : decode cX9_add 0 = .ok (.aload_n 0, 1) := by decide +kernel
theorem dX9_add_1 : decode cX9_add 1 = .ok (.getfield 43, 3) := by decide +kernel
theorem dX9_add_4 : decode cX9_add 4 = .ok (.ifCond .lt 12, 3) := by decide +kernel
theorem dX9_add_7 : decode cX9_add 7 = .ok (.aload_n 0, 1) := by decide +kernel
theorem dX9_add_8 : decode cX9_add 8 = .ok (.getfield 43, 3) := by decide +kernel
theorem dX9_add_11 : decode cX9_add 11 = .ok (.bipush 60, 2) := by decide +kernel
theorem dX9_add_13 : decode cX9_add 13 = .ok (.if_icmp .lt 5, 3) := by decide +kernel
theorem dX9_add_16 : decode cX9_add 16 = .ok (.iconst (-1), 1) := by decide +kernel
theorem dX9_add_17 : decode cX9_add 17 = .ok (.ireturn, 1) := by decide +kernel
theorem dX9_add_18 : decode cX9_add 18 = .ok (.aload_n 0, 1) := by decide +kernel
theorem dX9_add_19 : decode cX9_add 19 = .ok (.getfield 43, 3) := by decide +kernel
theorem dX9_add_22 : decode cX9_add 22 = .ok (.istore 4, 2) := by decide +kernel
theorem dX9_add_24 : decode cX9_add 24 = .ok (.aload_n 0, 1) := by decide +kernel
theorem dX9_add_25 : decode cX9_add 25 = .ok (.getfield 9, 3) := by decide +kernel
theorem dX9_add_28 : decode cX9_add 28 = .ok (.iload 4, 2) := by decide +kernel
theorem dX9_add_30 : decode cX9_add 30 = .ok (.iload_n 1, 1) := by decide +kernel
theorem dX9_add_31 : decode cX9_add 31 = .ok (.iastore, 1) := by decide +kernel
theorem dX9_add_32 : decode cX9_add 32 = .ok (.aload_n 0, 1) := by decide +kernel
theorem dX9_add_33 : decode cX9_add 33 = .ok (.getfield 15, 3) := by decide +kernel
theorem dX9_add_36 : decode cX9_add 36 = .ok (.iload 4, 2) := by decide +kernel
theorem dX9_add_38 : decode cX9_add 38 = .ok (.iload_n 2, 1) := by decide +kernel
theorem dX9_add_39 : decode cX9_add 39 = .ok (.castore, 1) := by decide +kernel
theorem dX9_add_40 : decode cX9_add 40 = .ok (.aload_n 0, 1) := by decide +kernel
theorem dX9_add_41 : decode cX9_add 41 = .ok (.getfield 19, 3) := by decide +kernel
theorem dX9_add_44 : decode cX9_add 44 = .ok (.iload 4, 2) := by decide +kernel
theorem dX9_add_46 : decode cX9_add 46 = .ok (.iload_n 3, 1) := by decide +kernel
theorem dX9_add_47 : decode cX9_add 47 = .ok (.bastore, 1) := by decide +kernel
theorem dX9_add_48 : decode cX9_add 48 = .ok (.aload_n 0, 1) := by decide +kernel
theorem dX9_add_49 : decode cX9_add 49 = .ok (.getfield 23, 3) := by decide +kernel
theorem dX9_add_52 : decode cX9_add 52 = .ok (.iload 4, 2) := by decide +kernel
theorem dX9_add_54 : decode cX9_add 54 = .ok (.iconst 1, 1) := by decide +kernel
theorem dX9_add_55 : decode cX9_add 55 = .ok (.bastore, 1) := by decide +kernel
theorem dX9_add_56 : decode cX9_add 56 = .ok (.aload_n 0, 1) := by decide +kernel
theorem dX9_add_57 : decode cX9_add 57 = .ok (.getfield 29, 3) := by decide +kernel
theorem dX9_add_60 : decode cX9_add 60 = .ok (.iload 4, 2) := by decide +kernel
theorem dX9_add_62 : decode cX9_add 62 = .ok (.bipush 15, 2) := by decide +kernel
theorem dX9_add_64 : decode cX9_add 64 = .ok (.iastore, 1) := by decide +kernel
theorem dX9_add_65 : decode cX9_add 65 = .ok (.aload_n 0, 1) := by decide +kernel
theorem dX9_add_66 : decode cX9_add 66 = .ok (.getfield 32, 3) := by decide +kernel
theorem dX9_add_69 : decode cX9_add 69 = .ok (.iload 4, 2) := by decide +kernel
theorem dX9_add_71 : decode cX9_add 71 = .ok (.iload_n 3, 1) := by decide +kernel
theorem dX9_add_72 : decode cX9_add 72 = .ok (.ifCond .eq 7, 3) := by decide +kernel
theorem dX9_add_75 : decode cX9_add 75 = .ok (.iconst 0, 1) := by decide +kernel
theorem dX9_add_76 : decode cX9_add 76 = .ok (.goto 4, 3) := by decide +kernel
theorem dX9_add_79 : decode cX9_add 79 = .ok (.iconst 1, 1) := by decide +kernel
theorem dX9_add_80 : decode cX9_add 80 = .ok (.iastore, 1) := by decide +kernel
theorem dX9_add_81 : decode cX9_add 81 = .ok (.aload_n 0, 1) := by decide +kernel
theorem dX9_add_82 : decode cX9_add 82 = .ok (.dup, 1) := by decide +kernel
theorem dX9_add_83 : decode cX9_add 83 = .ok (.getfield 43, 3) := by decide +kernel
theorem dX9_add_86 : decode cX9_add 86 = .ok (.iconst 1, 1) := by decide +kernel
theorem dX9_add_87 : decode cX9_add 87 = .ok (.iadd, 1) := by decide +kernel
theorem dX9_add_88 : decode cX9_add 88 = .ok (.putfield 43, 3) := by decide +kernel
theorem dX9_add_91 : decode cX9_add 91 = .ok (.iload 4, 2) := by decide +kernel
theorem dX9_add_93 : decode cX9_add 93 = .ok (.ireturn, 1) := by decide +kernel
theorem dX9_put_0 : decode cX9_put 0 = .ok (.aload_n 0, 1) := by decide +kernel
theorem dX9_put_1 : decode cX9_put 1 = .ok (.iload_n 1, 1) := by decide +kernel
theorem dX9_put_2 : decode cX9_put 2 = .ok (.invokevirtual 54, 3) := by decide +kernel
theorem dX9_put_5 : decode cX9_put 5 = .ok (.ifCond .eq 17, 3) := by decide +kernel
theorem dX9_put_8 : decode cX9_put 8 = .ok (.aload_n 0, 1) := by decide +kernel
theorem dX9_put_9 : decode cX9_put 9 = .ok (.getfield 9, 3) := by decide +kernel
theorem dX9_put_12 : decode cX9_put 12 = .ok (.iload_n 1, 1) := by decide +kernel
theorem dX9_put_13 : decode cX9_put 13 = .ok (.iload_n 2, 1) := by decide +kernel
theorem dX9_put_14 : decode cX9_put 14 = .ok (.iastore, 1) := by decide +kernel
theorem dX9_put_15 : decode cX9_put 15 = .ok (.aload_n 0, 1) := by decide +kernel
theorem dX9_put_16 : decode cX9_put 16 = .ok (.getfield 15, 3) := by decide +kernel
theorem dX9_put_19 : decode cX9_put 19 = .ok (.iload_n 1, 1) := by decide +kernel
theorem dX9_put_20 : decode cX9_put 20 = .ok (.iload_n 3, 1) := by decide +kernel
theorem dX9_put_21 : decode cX9_put 21 = .ok (.castore, 1) := by decide +kernel
theorem dX9_put_22 : decode cX9_put 22 = .ok (.return_, 1) := by decide +kernel
theorem dX9_append_0 : decode cX9_append 0 = .ok (.aload_n 0, 1) := by decide +kernel
theorem dX9_append_1 : decode cX9_append 1 = .ok (.iload_n 1, 1) := by decide +kernel
theorem dX9_append_2 : decode cX9_append 2 = .ok (.invokevirtual 58, 3) := by decide +kernel
theorem dX9_append_5 : decode cX9_append 5 = .ok (.istore_n 3, 1) := by decide +kernel
theorem dX9_append_6 : decode cX9_append 6 = .ok (.aload_n 0, 1) := by decide +kernel
theorem dX9_append_7 : decode cX9_append 7 = .ok (.iload_n 1, 1) := by decide +kernel
theorem dX9_append_8 : decode cX9_append 8 = .ok (.invokevirtual 61, 3) := by decide +kernel
theorem dX9_append_11 : decode cX9_append 11 = .ok (.ifCond .eq 41, 3) := by decide +kernel
theorem dX9_append_14 : decode cX9_append 14 = .ok (.iload_n 3, 1) := by decide +kernel
theorem dX9_append_15 : decode cX9_append 15 = .ok (.ifCond .lt 37, 3) := by decide +kernel
theorem dX9_append_18 : decode cX9_append 18 = .ok (.iload_n 3, 1) := by decide +kernel
theorem dX9_append_19 : decode cX9_append 19 = .ok (.bipush 20, 2) := by decide +kernel
theorem dX9_append_21 : decode cX9_append 21 = .ok (.if_icmp .ge 31, 3) := by decide +kernel
theorem dX9_append_24 : decode cX9_append 24 = .ok (.aload_n 0, 1) := by decide +kernel
theorem dX9_append_25 : decode cX9_append 25 = .ok (.getfield 40, 3) := by decide +kernel
theorem dX9_append_28 : decode cX9_append 28 = .ok (.iload_n 1, 1) := by decide +kernel
theorem dX9_append_29 : decode cX9_append 29 = .ok (.aaload, 1) := by decide +kernel
theorem dX9_append_30 : decode cX9_append 30 = .ok (.iload_n 3, 1) := by decide +kernel
theorem dX9_append_31 : decode cX9_append 31 = .ok (.iload_n 2, 1) := by decide +kernel
theorem dX9_append_32 : decode cX9_append 32 = .ok (.iastore, 1) := by decide +kernel
theorem dX9_append_33 : decode cX9_append 33 = .ok (.aload_n 0, 1) := by decide +kernel
theorem dX9_append_34 : decode cX9_append 34 = .ok (.getfield 35, 3) := by decide +kernel
theorem dX9_append_37 : decode cX9_append 37 = .ok (.iload_n 1, 1) := by decide +kernel
theorem dX9_append_38 : decode cX9_append 38 = .ok (.iload_n 3, 1) := by decide +kernel
theorem dX9_append_39 : decode cX9_append 39 = .ok (.iconst 1, 1) := by decide +kernel
theorem dX9_append_40 : decode cX9_append 40 = .ok (.iadd, 1) := by decide +kernel
theorem dX9_append_41 : decode cX9_append 41 = .ok (.iastore, 1) := by decide +kernel
theorem dX9_append_42 : decode cX9_append 42 = .ok (.aload_n 0, 1) := by decide +kernel
theorem dX9_append_43 : decode cX9_append 43 = .ok (.getfield 32, 3) := by decide +kernel
theorem dX9_append_46 : decode cX9_append 46 = .ok (.iload_n 1, 1) := by decide +kernel
theorem dX9_append_47 : decode cX9_append 47 = .ok (.dup2, 1) := by decide +kernel
theorem dX9_append_48 : decode cX9_append 48 = .ok (.iaload, 1) := by decide +kernel
theorem dX9_append_49 : decode cX9_append 49 = .ok (.iconst 1, 1) := by decide +kernel
theorem dX9_append_50 : decode cX9_append 50 = .ok (.iadd, 1) := by decide +kernel
theorem dX9_append_51 : decode cX9_append 51 = .ok (.iastore, 1) := by decide +kernel
theorem dX9_append_52 : decode cX9_append 52 = .ok (.return_, 1) := by decide +kernel
theorem dX9_clearText_0 : decode cX9_clearText 0 = .ok (.aload_n 0, 1) := by decide +kernel
theorem dX9_clearText_1 : decode cX9_clearText 1 = .ok (.iload_n 1, 1) := by decide +kernel
theorem dX9_clearText_2 : decode cX9_clearText 2 = .ok (.invokevirtual 61, 3) := by decide +kernel
theorem dX9_clearText_5 : decode cX9_clearText 5 = .ok (.ifCond .eq 20, 3) := by decide +kernel
theorem dX9_clearText_8 : decode cX9_clearText 8 = .ok (.aload_n 0, 1) := by decide +kernel
theorem dX9_clearText_9 : decode cX9_clearText 9 = .ok (.getfield 35, 3) := by decide +kernel
theorem dX9_clearText_12 : decode cX9_clearText 12 = .ok (.iload_n 1, 1) := by decide +kernel
theorem dX9_clearText_13 : decode cX9_clearText 13 = .ok (.iconst 0, 1) := by decide +kernel
theorem dX9_clearText_14 : decode cX9_clearText 14 = .ok (.iastore, 1) := by decide +kernel
theorem dX9_clearText_15 : decode cX9_clearText 15 = .ok (.aload_n 0, 1) := by decide +kernel
theorem dX9_clearText_16 : decode cX9_clearText 16 = .ok (.getfield 32, 3) := by decide +kernel
theorem dX9_clearText_19 : decode cX9_clearText 19 = .ok (.iload_n 1, 1) := by decide +kernel
theorem dX9_clearText_20 : decode cX9_clearText 20 = .ok (.dup2, 1) := by decide +kernel
theorem dX9_clearText_21 : decode cX9_clearText 21 = .ok (.iaload, 1) := by decide +kernel
theorem dX9_clearText_22 : decode cX9_clearText 22 = .ok (.iconst 1, 1) := by decide +kernel
theorem dX9_clearText_23 : decode cX9_clearText 23 = .ok (.iadd, 1) := by decide +kernel
theorem dX9_clearText_24 : decode cX9_clearText 24 = .ok (.iastore, 1) := by decide +kernel
theorem dX9_clearText_25 : decode cX9_clearText 25 = .ok (.return_, 1) := by decide +kernel
theorem dX9_setLocked_0 : decode cX9_setLocked 0 = .ok (.aload_n 0, 1) := by decide +kernel
theorem dX9_setLocked_1 : decode cX9_setLocked 1 = .ok (.iload_n 1, 1) := by decide +kernel
theorem dX9_setLocked_2 : decode cX9_setLocked 2 = .ok (.invokevirtual 61, 3) := by decide +kernel
theorem dX9_setLocked_5 : decode cX9_setLocked 5 = .ok (.ifCond .eq 10, 3) := by decide +kernel
theorem dX9_setLocked_8 : decode cX9_setLocked 8 = .ok (.aload_n 0, 1) := by decide +kernel
theorem dX9_setLocked_9 : decode cX9_setLocked 9 = .ok (.getfield 26, 3) := by decide +kernel
theorem dX9_setLocked_12 : decode cX9_setLocked 12 = .ok (.iload_n 1, 1) := by decide +kernel
theorem dX9_setLocked_13 : decode cX9_setLocked 13 = .ok (.iload_n 2, 1) := by decide +kernel
theorem dX9_setLocked_14 : decode cX9_setLocked 14 = .ok (.bastore, 1) := by decide +kernel
theorem dX9_setLocked_15 : decode cX9_setLocked 15 = .ok (.return_, 1) := by decide +kernel
theorem dX9_setPeople_0 : decode cX9_setPeople 0 = .ok (.aload_n 0, 1) := by decide +kernel
theorem dX9_setPeople_1 : decode cX9_setPeople 1 = .ok (.iload_n 1, 1) := by decide +kernel
theorem dX9_setPeople_2 : decode cX9_setPeople 2 = .ok (.invokevirtual 54, 3) := by decide +kernel
theorem dX9_setPeople_5 : decode cX9_setPeople 5 = .ok (.ifCond .eq 10, 3) := by decide +kernel
theorem dX9_setPeople_8 : decode cX9_setPeople 8 = .ok (.aload_n 0, 1) := by decide +kernel
theorem dX9_setPeople_9 : decode cX9_setPeople 9 = .ok (.getfield 29, 3) := by decide +kernel
theorem dX9_setPeople_12 : decode cX9_setPeople 12 = .ok (.iload_n 1, 1) := by decide +kernel
theorem dX9_setPeople_13 : decode cX9_setPeople 13 = .ok (.iload_n 2, 1) := by decide +kernel
theorem dX9_setPeople_14 : decode cX9_setPeople 14 = .ok (.iastore, 1) := by decide +kernel
theorem dX9_setPeople_15 : decode cX9_setPeople 15 = .ok (.return_, 1) := by decide +kernel
theorem dX9_takeAway_0 : decode cX9_takeAway 0 = .ok (.iconst 0, 1) := by decide +kernel
theorem dX9_takeAway_1 : decode cX9_takeAway 1 = .ok (.istore_n 2, 1) := by decide +kernel
theorem dX9_takeAway_2 : decode cX9_takeAway 2 = .ok (.iconst 0, 1) := by decide +kernel
theorem dX9_takeAway_3 : decode cX9_takeAway 3 = .ok (.istore_n 3, 1) := by decide +kernel
theorem dX9_takeAway_4 : decode cX9_takeAway 4 = .ok (.iload_n 3, 1) := by decide +kernel
theorem dX9_takeAway_5 : decode cX9_takeAway 5 = .ok (.bipush 60, 2) := by decide +kernel
theorem dX9_takeAway_7 : decode cX9_takeAway 7 = .ok (.if_icmp .ge 42, 3) := by decide +kernel
theorem dX9_takeAway_10 : decode cX9_takeAway 10 = .ok (.aload_n 0, 1) := by decide +kernel
theorem dX9_takeAway_11 : decode cX9_takeAway 11 = .ok (.getfield 23, 3) := by decide +kernel
theorem dX9_takeAway_14 : decode cX9_takeAway 14 = .ok (.iload_n 3, 1) := by decide +kernel
theorem dX9_takeAway_15 : decode cX9_takeAway 15 = .ok (.baload, 1) := by decide +kernel
theorem dX9_takeAway_16 : decode cX9_takeAway 16 = .ok (.ifCond .eq 27, 3) := by decide +kernel
theorem dX9_takeAway_19 : decode cX9_takeAway 19 = .ok (.iload_n 3, 1) := by decide +kernel
theorem dX9_takeAway_20 : decode cX9_takeAway 20 = .ok (.iload_n 1, 1) := by decide +kernel
theorem dX9_takeAway_21 : decode cX9_takeAway 21 = .ok (.if_icmp .eq 12, 3) := by decide +kernel
theorem dX9_takeAway_24 : decode cX9_takeAway 24 = .ok (.aload_n 0, 1) := by decide +kernel
theorem dX9_takeAway_25 : decode cX9_takeAway 25 = .ok (.iload_n 3, 1) := by decide +kernel
theorem dX9_takeAway_26 : decode cX9_takeAway 26 = .ok (.iload_n 1, 1) := by decide +kernel
theorem dX9_takeAway_27 : decode cX9_takeAway 27 = .ok (.invokevirtual 64, 3) := by decide +kernel
theorem dX9_takeAway_30 : decode cX9_takeAway 30 = .ok (.ifCond .eq 13, 3) := by decide +kernel
theorem dX9_takeAway_33 : decode cX9_takeAway 33 = .ok (.aload_n 0, 1) := by decide +kernel
theorem dX9_takeAway_34 : decode cX9_takeAway 34 = .ok (.getfield 23, 3) := by decide +kernel
theorem dX9_takeAway_37 : decode cX9_takeAway 37 = .ok (.iload_n 3, 1) := by decide +kernel
theorem dX9_takeAway_38 : decode cX9_takeAway 38 = .ok (.iconst 0, 1) := by decide +kernel
theorem dX9_takeAway_39 : decode cX9_takeAway 39 = .ok (.bastore, 1) := by decide +kernel
theorem dX9_takeAway_40 : decode cX9_takeAway 40 = .ok (.iinc 2 1, 3) := by decide +kernel
theorem dX9_takeAway_43 : decode cX9_takeAway 43 = .ok (.iinc 3 1, 3) := by decide +kernel
theorem dX9_takeAway_46 : decode cX9_takeAway 46 = .ok (.goto (-42), 3) := by decide +kernel
theorem dX9_takeAway_49 : decode cX9_takeAway 49 = .ok (.iconst 0, 1) := by decide +kernel
theorem dX9_takeAway_50 : decode cX9_takeAway 50 = .ok (.istore_n 3, 1) := by decide +kernel
theorem dX9_takeAway_51 : decode cX9_takeAway 51 = .ok (.iload_n 3, 1) := by decide +kernel
theorem dX9_takeAway_52 : decode cX9_takeAway 52 = .ok (.bipush 60, 2) := by decide +kernel
theorem dX9_takeAway_54 : decode cX9_takeAway 54 = .ok (.if_icmp .ge 25, 3) := by decide +kernel
theorem dX9_takeAway_57 : decode cX9_takeAway 57 = .ok (.aload_n 0, 1) := by decide +kernel
theorem dX9_takeAway_58 : decode cX9_takeAway 58 = .ok (.getfield 23, 3) := by decide +kernel
theorem dX9_takeAway_61 : decode cX9_takeAway 61 = .ok (.iload_n 3, 1) := by decide +kernel
theorem dX9_takeAway_62 : decode cX9_takeAway 62 = .ok (.baload, 1) := by decide +kernel
theorem dX9_takeAway_63 : decode cX9_takeAway 63 = .ok (.ifCond .ne 10, 3) := by decide +kernel
theorem dX9_takeAway_66 : decode cX9_takeAway 66 = .ok (.aload_n 0, 1) := by decide +kernel
theorem dX9_takeAway_67 : decode cX9_takeAway 67 = .ok (.getfield 9, 3) := by decide +kernel
theorem dX9_takeAway_70 : decode cX9_takeAway 70 = .ok (.iload_n 3, 1) := by decide +kernel
theorem dX9_takeAway_71 : decode cX9_takeAway 71 = .ok (.iconst (-1), 1) := by decide +kernel
theorem dX9_takeAway_72 : decode cX9_takeAway 72 = .ok (.iastore, 1) := by decide +kernel
theorem dX9_takeAway_73 : decode cX9_takeAway 73 = .ok (.iinc 3 1, 3) := by decide +kernel
theorem dX9_takeAway_76 : decode cX9_takeAway 76 = .ok (.goto (-25), 3) := by decide +kernel
theorem dX9_takeAway_79 : decode cX9_takeAway 79 = .ok (.iload_n 2, 1) := by decide +kernel
theorem dX9_takeAway_80 : decode cX9_takeAway 80 = .ok (.ireturn, 1) := by decide +kernel
theorem dX10_make_0 : decode cX10_make 0 = .ok (.aload_n 0, 1) := by decide +kernel
theorem dX10_make_1 : decode cX10_make 1 = .ok (.getfield 10, 3) := by decide +kernel
theorem dX10_make_4 : decode cX10_make 4 = .ok (.iload_n 1, 1) := by decide +kernel
theorem dX10_make_5 : decode cX10_make 5 = .ok (.invokevirtual 57, 3) := by decide +kernel
theorem dX10_make_8 : decode cX10_make 8 = .ok (.ifCond .ne 13, 3) := by decide +kernel
theorem dX10_make_11 : decode cX10_make 11 = .ok (.new 61, 3) := by decide +kernel
theorem dX10_make_14 : decode cX10_make 14 = .ok (.dup, 1) := by decide +kernel
theorem dX10_make_15 : decode cX10_make 15 = .ok (.ldc 63, 2) := by decide +kernel
theorem dX10_make_17 : decode cX10_make 17 = .ok (.invokespecial 65, 3) := by decide +kernel
theorem dX10_make_20 : decode cX10_make 20 = .ok (.athrow, 1) := by decide +kernel
theorem dX10_make_21 : decode cX10_make 21 = .ok (.iload_n 2, 1) := by decide +kernel
theorem dX10_make_22 : decode cX10_make 22 = .ok (.invokestatic 68, 3) := by decide +kernel
theorem dX10_make_25 : decode cX10_make 25 = .ok (.ifCond .ne 13, 3) := by decide +kernel
theorem dX10_make_28 : decode cX10_make 28 = .ok (.new 72, 3) := by decide +kernel
theorem dX10_make_31 : decode cX10_make 31 = .ok (.dup, 1) := by decide +kernel
theorem dX10_make_32 : decode cX10_make 32 = .ok (.ldc 74, 2) := by decide +kernel
theorem dX10_make_34 : decode cX10_make 34 = .ok (.invokespecial 76, 3) := by decide +kernel
theorem dX10_make_37 : decode cX10_make 37 = .ok (.athrow, 1) := by decide +kernel
theorem dX10_make_38 : decode cX10_make 38 = .ok (.aload_n 0, 1) := by decide +kernel
theorem dX10_make_39 : decode cX10_make 39 = .ok (.getfield 10, 3) := by decide +kernel
theorem dX10_make_42 : decode cX10_make 42 = .ok (.iload_n 1, 1) := by decide +kernel
theorem dX10_make_43 : decode cX10_make 43 = .ok (.iload_n 2, 1) := by decide +kernel
theorem dX10_make_44 : decode cX10_make 44 = .ok (.invokevirtual 77, 3) := by decide +kernel
theorem dX10_make_47 : decode cX10_make 47 = .ok (.iconst (-1), 1) := by decide +kernel
theorem dX10_make_48 : decode cX10_make 48 = .ok (.if_icmp .ne 13, 3) := by decide +kernel
theorem dX10_make_51 : decode cX10_make 51 = .ok (.aload_n 0, 1) := by decide +kernel
theorem dX10_make_52 : decode cX10_make 52 = .ok (.getfield 10, 3) := by decide +kernel
theorem dX10_make_55 : decode cX10_make 55 = .ok (.invokevirtual 81, 3) := by decide +kernel
theorem dX10_make_58 : decode cX10_make 58 = .ok (.ifCond .eq 13, 3) := by decide +kernel
theorem dX10_make_61 : decode cX10_make 61 = .ok (.new 85, 3) := by decide +kernel
theorem dX10_make_64 : decode cX10_make 64 = .ok (.dup, 1) := by decide +kernel
theorem dX10_make_65 : decode cX10_make 65 = .ok (.ldc 87, 2) := by decide +kernel
theorem dX10_make_67 : decode cX10_make 67 = .ok (.invokespecial 89, 3) := by decide +kernel
theorem dX10_make_70 : decode cX10_make 70 = .ok (.athrow, 1) := by decide +kernel
theorem dX10_make_71 : decode cX10_make 71 = .ok (.aload_n 0, 1) := by decide +kernel
theorem dX10_make_72 : decode cX10_make 72 = .ok (.getfield 10, 3) := by decide +kernel
theorem dX10_make_75 : decode cX10_make 75 = .ok (.iload_n 1, 1) := by decide +kernel
theorem dX10_make_76 : decode cX10_make 76 = .ok (.iload_n 2, 1) := by decide +kernel
theorem dX10_make_77 : decode cX10_make 77 = .ok (.iload_n 3, 1) := by decide +kernel
theorem dX10_make_78 : decode cX10_make 78 = .ok (.invokevirtual 90, 3) := by decide +kernel
theorem dX10_make_81 : decode cX10_make 81 = .ok (.istore 4, 2) := by decide +kernel
theorem dX10_make_83 : decode cX10_make 83 = .ok (.aload_n 0, 1) := by decide +kernel
theorem dX10_make_84 : decode cX10_make 84 = .ok (.getfield 21, 3) := by decide +kernel
theorem dX10_make_87 : decode cX10_make 87 = .ok (.iload 4, 2) := by decide +kernel
theorem dX10_make_89 : decode cX10_make 89 = .ok (.iconst 1, 1) := by decide +kernel
theorem dX10_make_90 : decode cX10_make 90 = .ok (.invokevirtual 94, 3) := by decide +kernel
theorem dX10_make_93 : decode cX10_make 93 = .ok (.iload 4, 2) := by decide +kernel
theorem dX10_make_95 : decode cX10_make 95 = .ok (.ireturn, 1) := by decide +kernel
theorem dX10_write_0 : decode cX10_write 0 = .ok (.aload_n 0, 1) := by decide +kernel
theorem dX10_write_1 : decode cX10_write 1 = .ok (.getfield 10, 3) := by decide +kernel
theorem dX10_write_4 : decode cX10_write 4 = .ok (.iload_n 1, 1) := by decide +kernel
theorem dX10_write_5 : decode cX10_write 5 = .ok (.invokevirtual 98, 3) := by decide +kernel
theorem dX10_write_8 : decode cX10_write 8 = .ok (.ifCond .ne 13, 3) := by decide +kernel
theorem dX10_write_11 : decode cX10_write 11 = .ok (.new 61, 3) := by decide +kernel
theorem dX10_write_14 : decode cX10_write 14 = .ok (.dup, 1) := by decide +kernel
theorem dX10_write_15 : decode cX10_write 15 = .ok (.ldc 101, 2) := by decide +kernel
theorem dX10_write_17 : decode cX10_write 17 = .ok (.invokespecial 65, 3) := by decide +kernel
theorem dX10_write_20 : decode cX10_write 20 = .ok (.athrow, 1) := by decide +kernel
theorem dX10_write_21 : decode cX10_write 21 = .ok (.iload_n 2, 1) := by decide +kernel
theorem dX10_write_22 : decode cX10_write 22 = .ok (.invokestatic 103, 3) := by decide +kernel
theorem dX10_write_25 : decode cX10_write 25 = .ok (.ifCond .ne 25, 3) := by decide +kernel
theorem dX10_write_28 : decode cX10_write 28 = .ok (.iload_n 2, 1) := by decide +kernel
theorem dX10_write_29 : decode cX10_write 29 = .ok (.bipush (-2), 2) := by decide +kernel
theorem dX10_write_31 : decode cX10_write 31 = .ok (.if_icmp .eq 19, 3) := by decide +kernel
theorem dX10_write_34 : decode cX10_write 34 = .ok (.iload_n 2, 1) := by decide +kernel
theorem dX10_write_35 : decode cX10_write 35 = .ok (.bipush (-3), 2) := by decide +kernel
theorem dX10_write_37 : decode cX10_write 37 = .ok (.if_icmp .eq 13, 3) := by decide +kernel
theorem dX10_write_40 : decode cX10_write 40 = .ok (.new 72, 3) := by decide +kernel
theorem dX10_write_43 : decode cX10_write 43 = .ok (.dup, 1) := by decide +kernel
theorem dX10_write_44 : decode cX10_write 44 = .ok (.ldc 106, 2) := by decide +kernel
theorem dX10_write_46 : decode cX10_write 46 = .ok (.invokespecial 76, 3) := by decide +kernel
theorem dX10_write_49 : decode cX10_write 49 = .ok (.athrow, 1) := by decide +kernel
theorem dX10_write_50 : decode cX10_write 50 = .ok (.aload_n 0, 1) := by decide +kernel
theorem dX10_write_51 : decode cX10_write 51 = .ok (.getfield 10, 3) := by decide +kernel
theorem dX10_write_54 : decode cX10_write 54 = .ok (.iload_n 1, 1) := by decide +kernel
theorem dX10_write_55 : decode cX10_write 55 = .ok (.invokevirtual 108, 3) := by decide +kernel
theorem dX10_write_58 : decode cX10_write 58 = .ok (.ifCond .ne 16, 3) := by decide +kernel
theorem dX10_write_61 : decode cX10_write 61 = .ok (.aload_n 0, 1) := by decide +kernel
theorem dX10_write_62 : decode cX10_write 62 = .ok (.getfield 10, 3) := by decide +kernel
theorem dX10_write_65 : decode cX10_write 65 = .ok (.iload_n 1, 1) := by decide +kernel
theorem dX10_write_66 : decode cX10_write 66 = .ok (.invokevirtual 111, 3) := by decide +kernel
theorem dX10_write_69 : decode cX10_write 69 = .ok (.bipush 20, 2) := by decide +kernel
theorem dX10_write_71 : decode cX10_write 71 = .ok (.if_icmp .lt 13, 3) := by decide +kernel
theorem dX10_write_74 : decode cX10_write 74 = .ok (.new 85, 3) := by decide +kernel
theorem dX10_write_77 : decode cX10_write 77 = .ok (.dup, 1) := by decide +kernel
theorem dX10_write_78 : decode cX10_write 78 = .ok (.ldc 115, 2) := by decide +kernel
theorem dX10_write_80 : decode cX10_write 80 = .ok (.invokespecial 89, 3) := by decide +kernel
theorem dX10_write_83 : decode cX10_write 83 = .ok (.athrow, 1) := by decide +kernel
theorem dX10_write_84 : decode cX10_write 84 = .ok (.aload_n 0, 1) := by decide +kernel
theorem dX10_write_85 : decode cX10_write 85 = .ok (.getfield 10, 3) := by decide +kernel
theorem dX10_write_88 : decode cX10_write 88 = .ok (.iload_n 1, 1) := by decide +kernel
theorem dX10_write_89 : decode cX10_write 89 = .ok (.iload_n 2, 1) := by decide +kernel
theorem dX10_write_90 : decode cX10_write 90 = .ok (.invokevirtual 117, 3) := by decide +kernel
theorem dX10_write_93 : decode cX10_write 93 = .ok (.aload_n 0, 1) := by decide +kernel
theorem dX10_write_94 : decode cX10_write 94 = .ok (.getfield 21, 3) := by decide +kernel
theorem dX10_write_97 : decode cX10_write 97 = .ok (.iload_n 1, 1) := by decide +kernel
theorem dX10_write_98 : decode cX10_write 98 = .ok (.iconst 2, 1) := by decide +kernel
theorem dX10_write_99 : decode cX10_write 99 = .ok (.invokevirtual 94, 3) := by decide +kernel
theorem dX10_write_102 : decode cX10_write 102 = .ok (.aload_n 0, 1) := by decide +kernel
theorem dX10_write_103 : decode cX10_write 103 = .ok (.getfield 10, 3) := by decide +kernel
theorem dX10_write_106 : decode cX10_write 106 = .ok (.iload_n 1, 1) := by decide +kernel
theorem dX10_write_107 : decode cX10_write 107 = .ok (.invokevirtual 120, 3) := by decide +kernel
theorem dX10_write_110 : decode cX10_write 110 = .ok (.ireturn, 1) := by decide +kernel
theorem dX10_empty_0 : decode cX10_empty 0 = .ok (.aload_n 0, 1) := by decide +kernel
theorem dX10_empty_1 : decode cX10_empty 1 = .ok (.getfield 10, 3) := by decide +kernel
theorem dX10_empty_4 : decode cX10_empty 4 = .ok (.iload_n 1, 1) := by decide +kernel
theorem dX10_empty_5 : decode cX10_empty 5 = .ok (.invokevirtual 98, 3) := by decide +kernel
theorem dX10_empty_8 : decode cX10_empty 8 = .ok (.ifCond .ne 13, 3) := by decide +kernel
theorem dX10_empty_11 : decode cX10_empty 11 = .ok (.new 61, 3) := by decide +kernel
theorem dX10_empty_14 : decode cX10_empty 14 = .ok (.dup, 1) := by decide +kernel
theorem dX10_empty_15 : decode cX10_empty 15 = .ok (.ldc 101, 2) := by decide +kernel
theorem dX10_empty_17 : decode cX10_empty 17 = .ok (.invokespecial 65, 3) := by decide +kernel
theorem dX10_empty_20 : decode cX10_empty 20 = .ok (.athrow, 1) := by decide +kernel
theorem dX10_empty_21 : decode cX10_empty 21 = .ok (.aload_n 0, 1) := by decide +kernel
theorem dX10_empty_22 : decode cX10_empty 22 = .ok (.getfield 10, 3) := by decide +kernel
theorem dX10_empty_25 : decode cX10_empty 25 = .ok (.iload_n 1, 1) := by decide +kernel
theorem dX10_empty_26 : decode cX10_empty 26 = .ok (.invokevirtual 108, 3) := by decide +kernel
theorem dX10_empty_29 : decode cX10_empty 29 = .ok (.ifCond .eq 13, 3) := by decide +kernel
theorem dX10_empty_32 : decode cX10_empty 32 = .ok (.new 85, 3) := by decide +kernel
theorem dX10_empty_35 : decode cX10_empty 35 = .ok (.dup, 1) := by decide +kernel
theorem dX10_empty_36 : decode cX10_empty 36 = .ok (.ldc 123, 2) := by decide +kernel
theorem dX10_empty_38 : decode cX10_empty 38 = .ok (.invokespecial 89, 3) := by decide +kernel
theorem dX10_empty_41 : decode cX10_empty 41 = .ok (.athrow, 1) := by decide +kernel
theorem dX10_empty_42 : decode cX10_empty 42 = .ok (.aload_n 0, 1) := by decide +kernel
theorem dX10_empty_43 : decode cX10_empty 43 = .ok (.getfield 10, 3) := by decide +kernel
theorem dX10_empty_46 : decode cX10_empty 46 = .ok (.iload_n 1, 1) := by decide +kernel
theorem dX10_empty_47 : decode cX10_empty 47 = .ok (.invokevirtual 111, 3) := by decide +kernel
theorem dX10_empty_50 : decode cX10_empty 50 = .ok (.istore_n 2, 1) := by decide +kernel
theorem dX10_empty_51 : decode cX10_empty 51 = .ok (.aload_n 0, 1) := by decide +kernel
theorem dX10_empty_52 : decode cX10_empty 52 = .ok (.getfield 10, 3) := by decide +kernel
theorem dX10_empty_55 : decode cX10_empty 55 = .ok (.iload_n 1, 1) := by decide +kernel
theorem dX10_empty_56 : decode cX10_empty 56 = .ok (.invokevirtual 125, 3) := by decide +kernel
theorem dX10_empty_59 : decode cX10_empty 59 = .ok (.aload_n 0, 1) := by decide +kernel
theorem dX10_empty_60 : decode cX10_empty 60 = .ok (.getfield 21, 3) := by decide +kernel
theorem dX10_empty_63 : decode cX10_empty 63 = .ok (.iload_n 1, 1) := by decide +kernel
theorem dX10_empty_64 : decode cX10_empty 64 = .ok (.iconst 2, 1) := by decide +kernel
theorem dX10_empty_65 : decode cX10_empty 65 = .ok (.invokevirtual 94, 3) := by decide +kernel
theorem dX10_empty_68 : decode cX10_empty 68 = .ok (.iload_n 2, 1) := by decide +kernel
theorem dX10_empty_69 : decode cX10_empty 69 = .ok (.ireturn, 1) := by decide +kernel
theorem dX10_move_0 : decode cX10_move 0 = .ok (.iload_n 1, 1) := by decide +kernel
theorem dX10_move_1 : decode cX10_move 1 = .ok (.ifCond .eq 25, 3) := by decide +kernel
theorem dX10_move_4 : decode cX10_move 4 = .ok (.aload_n 0, 1) := by decide +kernel
theorem dX10_move_5 : decode cX10_move 5 = .ok (.getfield 10, 3) := by decide +kernel
theorem dX10_move_8 : decode cX10_move 8 = .ok (.iload_n 1, 1) := by decide +kernel
theorem dX10_move_9 : decode cX10_move 9 = .ok (.invokevirtual 129, 3) := by decide +kernel
theorem dX10_move_12 : decode cX10_move 12 = .ok (.ifCond .eq 14, 3) := by decide +kernel
theorem dX10_move_15 : decode cX10_move 15 = .ok (.aload_n 0, 1) := by decide +kernel
theorem dX10_move_16 : decode cX10_move 16 = .ok (.getfield 10, 3) := by decide +kernel
theorem dX10_move_19 : decode cX10_move 19 = .ok (.iload_n 2, 1) := by decide +kernel
theorem dX10_move_20 : decode cX10_move 20 = .ok (.invokevirtual 57, 3) := by decide +kernel
theorem dX10_move_23 : decode cX10_move 23 = .ok (.ifCond .ne 13, 3) := by decide +kernel
theorem dX10_move_26 : decode cX10_move 26 = .ok (.new 61, 3) := by decide +kernel
theorem dX10_move_29 : decode cX10_move 29 = .ok (.dup, 1) := by decide +kernel
theorem dX10_move_30 : decode cX10_move 30 = .ok (.ldc 132, 2) := by decide +kernel
theorem dX10_move_32 : decode cX10_move 32 = .ok (.invokespecial 65, 3) := by decide +kernel
theorem dX10_move_35 : decode cX10_move 35 = .ok (.athrow, 1) := by decide +kernel
theorem dX10_move_36 : decode cX10_move 36 = .ok (.iload_n 3, 1) := by decide +kernel
theorem dX10_move_37 : decode cX10_move 37 = .ok (.invokestatic 68, 3) := by decide +kernel
theorem dX10_move_40 : decode cX10_move 40 = .ok (.ifCond .ne 13, 3) := by decide +kernel
theorem dX10_move_43 : decode cX10_move 43 = .ok (.new 72, 3) := by decide +kernel
theorem dX10_move_46 : decode cX10_move 46 = .ok (.dup, 1) := by decide +kernel
theorem dX10_move_47 : decode cX10_move 47 = .ok (.ldc 74, 2) := by decide +kernel
theorem dX10_move_49 : decode cX10_move 49 = .ok (.invokespecial 76, 3) := by decide +kernel
theorem dX10_move_52 : decode cX10_move 52 = .ok (.athrow, 1) := by decide +kernel
theorem dX10_move_53 : decode cX10_move 53 = .ok (.aload_n 0, 1) := by decide +kernel
theorem dX10_move_54 : decode cX10_move 54 = .ok (.getfield 10, 3) := by decide +kernel
theorem dX10_move_57 : decode cX10_move 57 = .ok (.iload_n 2, 1) := by decide +kernel
theorem dX10_move_58 : decode cX10_move 58 = .ok (.iload_n 3, 1) := by decide +kernel
theorem dX10_move_59 : decode cX10_move 59 = .ok (.invokevirtual 77, 3) := by decide +kernel
theorem dX10_move_62 : decode cX10_move 62 = .ok (.istore 4, 2) := by decide +kernel
theorem dX10_move_64 : decode cX10_move 64 = .ok (.iload_n 2, 1) := by decide +kernel
theorem dX10_move_65 : decode cX10_move 65 = .ok (.iload_n 1, 1) := by decide +kernel
theorem dX10_move_66 : decode cX10_move 66 = .ok (.if_icmp .eq 27, 3) := by decide +kernel
theorem dX10_move_69 : decode cX10_move 69 = .ok (.aload_n 0, 1) := by decide +kernel
theorem dX10_move_70 : decode cX10_move 70 = .ok (.getfield 10, 3) := by decide +kernel
theorem dX10_move_73 : decode cX10_move 73 = .ok (.iload_n 2, 1) := by decide +kernel
theorem dX10_move_74 : decode cX10_move 74 = .ok (.iload_n 1, 1) := by decide +kernel
theorem dX10_move_75 : decode cX10_move 75 = .ok (.invokevirtual 134, 3) := by decide +kernel
theorem dX10_move_78 : decode cX10_move 78 = .ok (.ifCond .ne 15, 3) := by decide +kernel
theorem dX10_move_81 : decode cX10_move 81 = .ok (.iload 4, 2) := by decide +kernel
theorem dX10_move_83 : decode cX10_move 83 = .ok (.iconst (-1), 1) := by decide +kernel
theorem dX10_move_84 : decode cX10_move 84 = .ok (.if_icmp .eq 19, 3) := by decide +kernel
theorem dX10_move_87 : decode cX10_move 87 = .ok (.iload 4, 2) := by decide +kernel
theorem dX10_move_89 : decode cX10_move 89 = .ok (.iload_n 1, 1) := by decide +kernel
theorem dX10_move_90 : decode cX10_move 90 = .ok (.if_icmp .eq 13, 3) := by decide +kernel
theorem dX10_move_93 : decode cX10_move 93 = .ok (.new 85, 3) := by decide +kernel
theorem dX10_move_96 : decode cX10_move 96 = .ok (.dup, 1) := by decide +kernel
theorem dX10_move_97 : decode cX10_move 97 = .ok (.ldc 138, 2) := by decide +kernel
theorem dX10_move_99 : decode cX10_move 99 = .ok (.invokespecial 89, 3) := by decide +kernel
theorem dX10_move_102 : decode cX10_move 102 = .ok (.athrow, 1) := by decide +kernel
theorem dX10_move_103 : decode cX10_move 103 = .ok (.aload_n 0, 1) := by decide +kernel
theorem dX10_move_104 : decode cX10_move 104 = .ok (.getfield 21, 3) := by decide +kernel
theorem dX10_move_107 : decode cX10_move 107 = .ok (.iload_n 2, 1) := by decide +kernel
theorem dX10_move_108 : decode cX10_move 108 = .ok (.invokevirtual 140, 3) := by decide +kernel
theorem dX10_move_111 : decode cX10_move 111 = .ok (.astore 5, 2) := by decide +kernel
theorem dX10_move_113 : decode cX10_move 113 = .ok (.aload 5, 2) := by decide +kernel
theorem dX10_move_115 : decode cX10_move 115 = .ok (.ifnull 24, 3) := by decide +kernel
theorem dX10_move_118 : decode cX10_move 118 = .ok (.aload_n 0, 1) := by decide +kernel
theorem dX10_move_119 : decode cX10_move 119 = .ok (.getfield 21, 3) := by decide +kernel
theorem dX10_move_122 : decode cX10_move 122 = .ok (.iload_n 1, 1) := by decide +kernel
theorem dX10_move_123 : decode cX10_move 123 = .ok (.invokevirtual 144, 3) := by decide +kernel
theorem dX10_move_126 : decode cX10_move 126 = .ok (.ifCond .eq 13, 3) := by decide +kernel
theorem dX10_move_129 : decode cX10_move 129 = .ok (.new 85, 3) := by decide +kernel
theorem dX10_move_132 : decode cX10_move 132 = .ok (.dup, 1) := by decide +kernel
theorem dX10_move_133 : decode cX10_move 133 = .ok (.ldc 147, 2) := by decide +kernel
theorem dX10_move_135 : decode cX10_move 135 = .ok (.invokespecial 89, 3) := by decide +kernel
theorem dX10_move_138 : decode cX10_move 138 = .ok (.athrow, 1) := by decide +kernel
theorem dX10_move_139 : decode cX10_move 139 = .ok (.aload_n 0, 1) := by decide +kernel
theorem dX10_move_140 : decode cX10_move 140 = .ok (.getfield 21, 3) := by decide +kernel
theorem dX10_move_143 : decode cX10_move 143 = .ok (.iload_n 1, 1) := by decide +kernel
theorem dX10_move_144 : decode cX10_move 144 = .ok (.invokevirtual 149, 3) := by decide +kernel
theorem dX10_move_147 : decode cX10_move 147 = .ok (.astore 6, 2) := by decide +kernel
theorem dX10_move_149 : decode cX10_move 149 = .ok (.aload_n 0, 1) := by decide +kernel
theorem dX10_move_150 : decode cX10_move 150 = .ok (.getfield 10, 3) := by decide +kernel
theorem dX10_move_153 : decode cX10_move 153 = .ok (.iload_n 1, 1) := by decide +kernel
theorem dX10_move_154 : decode cX10_move 154 = .ok (.invokevirtual 152, 3) := by decide +kernel
theorem dX10_move_157 : decode cX10_move 157 = .ok (.istore 7, 2) := by decide +kernel
theorem dX10_move_159 : decode cX10_move 159 = .ok (.aload_n 0, 1) := by decide +kernel
theorem dX10_move_160 : decode cX10_move 160 = .ok (.getfield 10, 3) := by decide +kernel
theorem dX10_move_163 : decode cX10_move 163 = .ok (.iload_n 1, 1) := by decide +kernel
theorem dX10_move_164 : decode cX10_move 164 = .ok (.iload_n 2, 1) := by decide +kernel
theorem dX10_move_165 : decode cX10_move 165 = .ok (.iload_n 3, 1) := by decide +kernel
theorem dX10_move_166 : decode cX10_move 166 = .ok (.invokevirtual 155, 3) := by decide +kernel
theorem dX10_move_169 : decode cX10_move 169 = .ok (.aload 6, 2) := by decide +kernel
theorem dX10_move_171 : decode cX10_move 171 = .ok (.ifnull 17, 3) := by decide +kernel
theorem dX10_move_174 : decode cX10_move 174 = .ok (.aload 6, 2) := by decide +kernel
theorem dX10_move_176 : decode cX10_move 176 = .ok (.aload 5, 2) := by decide +kernel
theorem dX10_move_178 : decode cX10_move 178 = .ok (.if_acmp .eq 10, 3) := by decide +kernel
theorem dX10_move_181 : decode cX10_move 181 = .ok (.aload 6, 2) := by decide +kernel
theorem dX10_move_183 : decode cX10_move 183 = .ok (.iconst 3, 1) := by decide +kernel
theorem dX10_move_184 : decode cX10_move 184 = .ok (.iload_n 1, 1) := by decide +kernel
theorem dX10_move_185 : decode cX10_move 185 = .ok (.invokevirtual 159, 3) := by decide +kernel
theorem dX10_move_188 : decode cX10_move 188 = .ok (.aload 5, 2) := by decide +kernel
theorem dX10_move_190 : decode cX10_move 190 = .ok (.ifnull 10, 3) := by decide +kernel
theorem dX10_move_193 : decode cX10_move 193 = .ok (.aload 5, 2) := by decide +kernel
theorem dX10_move_195 : decode cX10_move 195 = .ok (.iconst 1, 1) := by decide +kernel
theorem dX10_move_196 : decode cX10_move 196 = .ok (.iload_n 1, 1) := by decide +kernel
theorem dX10_move_197 : decode cX10_move 197 = .ok (.invokevirtual 159, 3) := by decide +kernel
theorem dX10_move_200 : decode cX10_move 200 = .ok (.iload 7, 2) := by decide +kernel
theorem dX10_move_202 : decode cX10_move 202 = .ok (.ireturn, 1) := by decide +kernel
theorem dX10_remove_0 : decode cX10_remove 0 = .ok (.iload_n 1, 1) := by decide +kernel
theorem dX10_remove_1 : decode cX10_remove 1 = .ok (.ifCond .eq 14, 3) := by decide +kernel
theorem dX10_remove_4 : decode cX10_remove 4 = .ok (.aload_n 0, 1) := by decide +kernel
theorem dX10_remove_5 : decode cX10_remove 5 = .ok (.getfield 10, 3) := by decide +kernel
theorem dX10_remove_8 : decode cX10_remove 8 = .ok (.iload_n 1, 1) := by decide +kernel
theorem dX10_remove_9 : decode cX10_remove 9 = .ok (.invokevirtual 129, 3) := by decide +kernel
theorem dX10_remove_12 : decode cX10_remove 12 = .ok (.ifCond .ne 13, 3) := by decide +kernel
theorem dX10_remove_15 : decode cX10_remove 15 = .ok (.new 61, 3) := by decide +kernel
theorem dX10_remove_18 : decode cX10_remove 18 = .ok (.dup, 1) := by decide +kernel
theorem dX10_remove_19 : decode cX10_remove 19 = .ok (.ldc 164, 2) := by decide +kernel
theorem dX10_remove_21 : decode cX10_remove 21 = .ok (.invokespecial 65, 3) := by decide +kernel
theorem dX10_remove_24 : decode cX10_remove 24 = .ok (.athrow, 1) := by decide +kernel
theorem dX10_remove_25 : decode cX10_remove 25 = .ok (.aload_n 0, 1) := by decide +kernel
theorem dX10_remove_26 : decode cX10_remove 26 = .ok (.getfield 21, 3) := by decide +kernel
theorem dX10_remove_29 : decode cX10_remove 29 = .ok (.iload_n 1, 1) := by decide +kernel
theorem dX10_remove_30 : decode cX10_remove 30 = .ok (.iconst 3, 1) := by decide +kernel
theorem dX10_remove_31 : decode cX10_remove 31 = .ok (.invokevirtual 94, 3) := by decide +kernel
theorem dX10_remove_34 : decode cX10_remove 34 = .ok (.aload_n 0, 1) := by decide +kernel
theorem dX10_remove_35 : decode cX10_remove 35 = .ok (.getfield 10, 3) := by decide +kernel
theorem dX10_remove_38 : decode cX10_remove 38 = .ok (.iload_n 1, 1) := by decide +kernel
theorem dX10_remove_39 : decode cX10_remove 39 = .ok (.invokevirtual 166, 3) := by decide +kernel
theorem dX10_remove_42 : decode cX10_remove 42 = .ok (.istore_n 2, 1) := by decide +kernel
theorem dX10_remove_43 : decode cX10_remove 43 = .ok (.aload_n 0, 1) := by decide +kernel
theorem dX10_remove_44 : decode cX10_remove 44 = .ok (.getfield 21, 3) := by decide +kernel
theorem dX10_remove_47 : decode cX10_remove 47 = .ok (.invokevirtual 169, 3) := by decide +kernel
theorem dX10_remove_50 : decode cX10_remove 50 = .ok (.ifCond .eq 10, 3) := by decide +kernel
theorem dX10_remove_53 : decode cX10_remove 53 = .ok (.aload_n 0, 1) := by decide +kernel
theorem dX10_remove_54 : decode cX10_remove 54 = .ok (.getfield 46, 3) := by decide +kernel
theorem dX10_remove_57 : decode cX10_remove 57 = .ok (.invokevirtual 172, 3) := by decide +kernel
theorem dX10_remove_60 : decode cX10_remove 60 = .ok (.iload_n 2, 1) := by decide +kernel
theorem dX10_remove_61 : decode cX10_remove 61 = .ok (.ireturn, 1) := by decide +kernel
theorem dX10_lock_0 : decode cX10_lock 0 = .ok (.aload_n 0, 1) := by decide +kernel
theorem dX10_lock_1 : decode cX10_lock 1 = .ok (.getfield 10, 3) := by decide +kernel
theorem dX10_lock_4 : decode cX10_lock 4 = .ok (.iload_n 1, 1) := by decide +kernel
theorem dX10_lock_5 : decode cX10_lock 5 = .ok (.invokevirtual 98, 3) := by decide +kernel
theorem dX10_lock_8 : decode cX10_lock 8 = .ok (.ifCond .ne 13, 3) := by decide +kernel
theorem dX10_lock_11 : decode cX10_lock 11 = .ok (.new 61, 3) := by decide +kernel
theorem dX10_lock_14 : decode cX10_lock 14 = .ok (.dup, 1) := by decide +kernel
theorem dX10_lock_15 : decode cX10_lock 15 = .ok (.ldc 101, 2) := by decide +kernel
theorem dX10_lock_17 : decode cX10_lock 17 = .ok (.invokespecial 65, 3) := by decide +kernel
theorem dX10_lock_20 : decode cX10_lock 20 = .ok (.athrow, 1) := by decide +kernel
theorem dX10_lock_21 : decode cX10_lock 21 = .ok (.aload_n 0, 1) := by decide +kernel
theorem dX10_lock_22 : decode cX10_lock 22 = .ok (.getfield 10, 3) := by decide +kernel
theorem dX10_lock_25 : decode cX10_lock 25 = .ok (.iload_n 1, 1) := by decide +kernel
theorem dX10_lock_26 : decode cX10_lock 26 = .ok (.invokevirtual 108, 3) := by decide +kernel
theorem dX10_lock_29 : decode cX10_lock 29 = .ok (.istore_n 3, 1) := by decide +kernel
theorem dX10_lock_30 : decode cX10_lock 30 = .ok (.aload_n 0, 1) := by decide +kernel
theorem dX10_lock_31 : decode cX10_lock 31 = .ok (.getfield 10, 3) := by decide +kernel
theorem dX10_lock_34 : decode cX10_lock 34 = .ok (.iload_n 1, 1) := by decide +kernel
theorem dX10_lock_35 : decode cX10_lock 35 = .ok (.iload_n 2, 1) := by decide +kernel
theorem dX10_lock_36 : decode cX10_lock 36 = .ok (.invokevirtual 175, 3) := by decide +kernel
theorem dX10_lock_39 : decode cX10_lock 39 = .ok (.iload_n 3, 1) := by decide +kernel
theorem dX10_lock_40 : decode cX10_lock 40 = .ok (.ireturn, 1) := by decide +kernel
theorem dX10_people_0 : decode cX10_people 0 = .ok (.aload_n 0, 1) := by decide +kernel
theorem dX10_people_1 : decode cX10_people 1 = .ok (.getfield 10, 3) := by decide +kernel
theorem dX10_people_4 : decode cX10_people 4 = .ok (.iload_n 1, 1) := by decide +kernel
theorem dX10_people_5 : decode cX10_people 5 = .ok (.invokevirtual 129, 3) := by decide +kernel
theorem dX10_people_8 : decode cX10_people 8 = .ok (.ifCond .ne 13, 3) := by decide +kernel
theorem dX10_people_11 : decode cX10_people 11 = .ok (.new 61, 3) := by decide +kernel
theorem dX10_people_14 : decode cX10_people 14 = .ok (.dup, 1) := by decide +kernel
theorem dX10_people_15 : decode cX10_people 15 = .ok (.ldc 179, 2) := by decide +kernel
theorem dX10_people_17 : decode cX10_people 17 = .ok (.invokespecial 65, 3) := by decide +kernel
theorem dX10_people_20 : decode cX10_people 20 = .ok (.athrow, 1) := by decide +kernel
theorem dX10_people_21 : decode cX10_people 21 = .ok (.iload_n 2, 1) := by decide +kernel
theorem dX10_people_22 : decode cX10_people 22 = .ok (.ifCond .lt 9, 3) := by decide +kernel
theorem dX10_people_25 : decode cX10_people 25 = .ok (.iload_n 2, 1) := by decide +kernel
theorem dX10_people_26 : decode cX10_people 26 = .ok (.bipush 15, 2) := by decide +kernel
theorem dX10_people_28 : decode cX10_people 28 = .ok (.if_icmp .le 13, 3) := by decide +kernel
theorem dX10_people_31 : decode cX10_people 31 = .ok (.new 72, 3) := by decide +kernel
theorem dX10_people_34 : decode cX10_people 34 = .ok (.dup, 1) := by decide +kernel
theorem dX10_people_35 : decode cX10_people 35 = .ok (.ldc 181, 2) := by decide +kernel
theorem dX10_people_37 : decode cX10_people 37 = .ok (.invokespecial 76, 3) := by decide +kernel
theorem dX10_people_40 : decode cX10_people 40 = .ok (.athrow, 1) := by decide +kernel
theorem dX10_people_41 : decode cX10_people 41 = .ok (.aload_n 0, 1) := by decide +kernel
theorem dX10_people_42 : decode cX10_people 42 = .ok (.getfield 10, 3) := by decide +kernel
theorem dX10_people_45 : decode cX10_people 45 = .ok (.iload_n 1, 1) := by decide +kernel
theorem dX10_people_46 : decode cX10_people 46 = .ok (.invokevirtual 183, 3) := by decide +kernel
theorem dX10_people_49 : decode cX10_people 49 = .ok (.istore_n 3, 1) := by decide +kernel
theorem dX10_people_50 : decode cX10_people 50 = .ok (.aload_n 0, 1) := by decide +kernel
theorem dX10_people_51 : decode cX10_people 51 = .ok (.getfield 10, 3) := by decide +kernel
theorem dX10_people_54 : decode cX10_people 54 = .ok (.iload_n 1, 1) := by decide +kernel
theorem dX10_people_55 : decode cX10_people 55 = .ok (.iload_n 2, 1) := by decide +kernel
theorem dX10_people_56 : decode cX10_people 56 = .ok (.invokevirtual 186, 3) := by decide +kernel
theorem dX10_people_59 : decode cX10_people 59 = .ok (.iload_n 3, 1) := by decide +kernel
theorem dX10_people_60 : decode cX10_people 60 = .ok (.ireturn, 1) := by decide +kernel
theorem dX10_mayRead_0 : decode cX10_mayRead 0 = .ok (.iload_n 1, 1) := by decide +kernel
theorem dX10_mayRead_1 : decode cX10_mayRead 1 = .ok (.invokestatic 189, 3) := by decide +kernel
theorem dX10_mayRead_4 : decode cX10_mayRead 4 = .ok (.ifCond .eq 14, 3) := by decide +kernel
theorem dX10_mayRead_7 : decode cX10_mayRead 7 = .ok (.aload_n 0, 1) := by decide +kernel
theorem dX10_mayRead_8 : decode cX10_mayRead 8 = .ok (.getfield 10, 3) := by decide +kernel
theorem dX10_mayRead_11 : decode cX10_mayRead 11 = .ok (.iload_n 2, 1) := by decide +kernel
theorem dX10_mayRead_12 : decode cX10_mayRead 12 = .ok (.invokevirtual 129, 3) := by decide +kernel
theorem dX10_mayRead_15 : decode cX10_mayRead 15 = .ok (.ifCond .ne 13, 3) := by decide +kernel
theorem dX10_mayRead_18 : decode cX10_mayRead 18 = .ok (.new 61, 3) := by decide +kernel
theorem dX10_mayRead_21 : decode cX10_mayRead 21 = .ok (.dup, 1) := by decide +kernel
theorem dX10_mayRead_22 : decode cX10_mayRead 22 = .ok (.ldc 192, 2) := by decide +kernel
theorem dX10_mayRead_24 : decode cX10_mayRead 24 = .ok (.invokespecial 65, 3) := by decide +kernel
theorem dX10_mayRead_27 : decode cX10_mayRead 27 = .ok (.athrow, 1) := by decide +kernel
theorem dX10_mayRead_28 : decode cX10_mayRead 28 = .ok (.aload_n 0, 1) := by decide +kernel
theorem dX10_mayRead_29 : decode cX10_mayRead 29 = .ok (.getfield 10, 3) := by decide +kernel
theorem dX10_mayRead_32 : decode cX10_mayRead 32 = .ok (.iload_n 1, 1) := by decide +kernel
theorem dX10_mayRead_33 : decode cX10_mayRead 33 = .ok (.iload_n 2, 1) := by decide +kernel
theorem dX10_mayRead_34 : decode cX10_mayRead 34 = .ok (.invokevirtual 194, 3) := by decide +kernel
theorem dX10_mayRead_37 : decode cX10_mayRead 37 = .ok (.ireturn, 1) := by decide +kernel
theorem dX10_nodes_0 : decode cX10_nodes 0 = .ok (.aload_n 0, 1) := by decide +kernel
theorem dX10_nodes_1 : decode cX10_nodes 1 = .ok (.getfield 10, 3) := by decide +kernel
theorem dX10_nodes_4 : decode cX10_nodes 4 = .ok (.invokevirtual 197, 3) := by decide +kernel
theorem dX10_nodes_7 : decode cX10_nodes 7 = .ok (.ireturn, 1) := by decide +kernel
theorem dX10_watch_0 : decode cX10_watch 0 = .ok (.aload_n 0, 1) := by decide +kernel
theorem dX10_watch_1 : decode cX10_watch 1 = .ok (.getfield 10, 3) := by decide +kernel
theorem dX10_watch_4 : decode cX10_watch 4 = .ok (.iload_n 1, 1) := by decide +kernel
theorem dX10_watch_5 : decode cX10_watch 5 = .ok (.invokevirtual 57, 3) := by decide +kernel
theorem dX10_watch_8 : decode cX10_watch 8 = .ok (.ifCond .ne 13, 3) := by decide +kernel
theorem dX10_watch_11 : decode cX10_watch 11 = .ok (.new 61, 3) := by decide +kernel
theorem dX10_watch_14 : decode cX10_watch 14 = .ok (.dup, 1) := by decide +kernel
theorem dX10_watch_15 : decode cX10_watch 15 = .ok (.ldc 63, 2) := by decide +kernel
theorem dX10_watch_17 : decode cX10_watch 17 = .ok (.invokespecial 65, 3) := by decide +kernel
theorem dX10_watch_20 : decode cX10_watch 20 = .ok (.athrow, 1) := by decide +kernel
theorem dX10_watch_21 : decode cX10_watch 21 = .ok (.aload_n 0, 1) := by decide +kernel
theorem dX10_watch_22 : decode cX10_watch 22 = .ok (.getfield 21, 3) := by decide +kernel
theorem dX10_watch_25 : decode cX10_watch 25 = .ok (.iload_n 1, 1) := by decide +kernel
theorem dX10_watch_26 : decode cX10_watch 26 = .ok (.invokevirtual 201, 3) := by decide +kernel
theorem dX10_watch_29 : decode cX10_watch 29 = .ok (.ifnull 26, 3) := by decide +kernel
theorem dX10_watch_32 : decode cX10_watch 32 = .ok (.aload_n 0, 1) := by decide +kernel
theorem dX10_watch_33 : decode cX10_watch 33 = .ok (.getfield 21, 3) := by decide +kernel
theorem dX10_watch_36 : decode cX10_watch 36 = .ok (.iload_n 1, 1) := by decide +kernel
theorem dX10_watch_37 : decode cX10_watch 37 = .ok (.invokevirtual 204, 3) := by decide +kernel
theorem dX10_watch_40 : decode cX10_watch 40 = .ok (.aload_n 0, 1) := by decide +kernel
theorem dX10_watch_41 : decode cX10_watch 41 = .ok (.getfield 46, 3) := by decide +kernel
theorem dX10_watch_44 : decode cX10_watch 44 = .ok (.invokevirtual 172, 3) := by decide +kernel
theorem dX10_watch_47 : decode cX10_watch 47 = .ok (.aload_n 0, 1) := by decide +kernel
theorem dX10_watch_48 : decode cX10_watch 48 = .ok (.getfield 21, 3) := by decide +kernel
theorem dX10_watch_51 : decode cX10_watch 51 = .ok (.invokevirtual 207, 3) := by decide +kernel
theorem dX10_watch_54 : decode cX10_watch 54 = .ok (.ireturn, 1) := by decide +kernel
theorem dX10_watch_55 : decode cX10_watch 55 = .ok (.aload_n 0, 1) := by decide +kernel
theorem dX10_watch_56 : decode cX10_watch 56 = .ok (.getfield 21, 3) := by decide +kernel
theorem dX10_watch_59 : decode cX10_watch 59 = .ok (.invokevirtual 210, 3) := by decide +kernel
theorem dX10_watch_62 : decode cX10_watch 62 = .ok (.ifCond .ne 25, 3) := by decide +kernel
theorem dX10_watch_65 : decode cX10_watch 65 = .ok (.aload_n 0, 1) := by decide +kernel
theorem dX10_watch_66 : decode cX10_watch 66 = .ok (.getfield 21, 3) := by decide +kernel
theorem dX10_watch_69 : decode cX10_watch 69 = .ok (.iload_n 1, 1) := by decide +kernel
theorem dX10_watch_70 : decode cX10_watch 70 = .ok (.invokevirtual 140, 3) := by decide +kernel
theorem dX10_watch_73 : decode cX10_watch 73 = .ok (.ifnonnull 14, 3) := by decide +kernel
theorem dX10_watch_76 : decode cX10_watch 76 = .ok (.aload_n 0, 1) := by decide +kernel
theorem dX10_watch_77 : decode cX10_watch 77 = .ok (.getfield 21, 3) := by decide +kernel
theorem dX10_watch_80 : decode cX10_watch 80 = .ok (.iload_n 1, 1) := by decide +kernel
theorem dX10_watch_81 : decode cX10_watch 81 = .ok (.invokevirtual 144, 3) := by decide +kernel
theorem dX10_watch_84 : decode cX10_watch 84 = .ok (.ifCond .eq 13, 3) := by decide +kernel
theorem dX10_watch_87 : decode cX10_watch 87 = .ok (.new 85, 3) := by decide +kernel
theorem dX10_watch_90 : decode cX10_watch 90 = .ok (.dup, 1) := by decide +kernel
theorem dX10_watch_91 : decode cX10_watch 91 = .ok (.ldc 211, 2) := by decide +kernel
theorem dX10_watch_93 : decode cX10_watch 93 = .ok (.invokespecial 89, 3) := by decide +kernel
theorem dX10_watch_96 : decode cX10_watch 96 = .ok (.athrow, 1) := by decide +kernel
theorem dX10_watch_97 : decode cX10_watch 97 = .ok (.aload_n 0, 1) := by decide +kernel
theorem dX10_watch_98 : decode cX10_watch 98 = .ok (.getfield 21, 3) := by decide +kernel
theorem dX10_watch_101 : decode cX10_watch 101 = .ok (.iload_n 1, 1) := by decide +kernel
theorem dX10_watch_102 : decode cX10_watch 102 = .ok (.invokevirtual 213, 3) := by decide +kernel
theorem dX10_watch_105 : decode cX10_watch 105 = .ok (.aload_n 0, 1) := by decide +kernel
theorem dX10_watch_106 : decode cX10_watch 106 = .ok (.getfield 21, 3) := by decide +kernel
theorem dX10_watch_109 : decode cX10_watch 109 = .ok (.invokevirtual 207, 3) := by decide +kernel
theorem dX10_watch_112 : decode cX10_watch 112 = .ok (.ireturn, 1) := by decide +kernel
theorem dX10_notices_0 : decode cX10_notices 0 = .ok (.aload_n 0, 1) := by decide +kernel
theorem dX10_notices_1 : decode cX10_notices 1 = .ok (.getfield 21, 3) := by decide +kernel
theorem dX10_notices_4 : decode cX10_notices 4 = .ok (.iload_n 1, 1) := by decide +kernel
theorem dX10_notices_5 : decode cX10_notices 5 = .ok (.invokevirtual 201, 3) := by decide +kernel
theorem dX10_notices_8 : decode cX10_notices 8 = .ok (.astore_n 2, 1) := by decide +kernel
theorem dX10_notices_9 : decode cX10_notices 9 = .ok (.aload_n 2, 1) := by decide +kernel
theorem dX10_notices_10 : decode cX10_notices 10 = .ok (.ifnonnull 13, 3) := by decide +kernel
theorem dX10_notices_13 : decode cX10_notices 13 = .ok (.new 61, 3) := by decide +kernel
theorem dX10_notices_16 : decode cX10_notices 16 = .ok (.dup, 1) := by decide +kernel
theorem dX10_notices_17 : decode cX10_notices 17 = .ok (.ldc 215, 2) := by decide +kernel
theorem dX10_notices_19 : decode cX10_notices 19 = .ok (.invokespecial 65, 3) := by decide +kernel
theorem dX10_notices_22 : decode cX10_notices 22 = .ok (.athrow, 1) := by decide +kernel
theorem dX10_notices_23 : decode cX10_notices 23 = .ok (.aload_n 2, 1) := by decide +kernel
theorem dX10_notices_24 : decode cX10_notices 24 = .ok (.invokevirtual 217, 3) := by decide +kernel
theorem dX10_notices_27 : decode cX10_notices 27 = .ok (.ireturn, 1) := by decide +kernel
theorem dX10_twice_0 : decode cX10_twice 0 = .ok (.aload_n 0, 1) := by decide +kernel
theorem dX10_twice_1 : decode cX10_twice 1 = .ok (.getfield 21, 3) := by decide +kernel
theorem dX10_twice_4 : decode cX10_twice 4 = .ok (.iload_n 1, 1) := by decide +kernel
theorem dX10_twice_5 : decode cX10_twice 5 = .ok (.invokevirtual 201, 3) := by decide +kernel
theorem dX10_twice_8 : decode cX10_twice 8 = .ok (.astore_n 2, 1) := by decide +kernel
theorem dX10_twice_9 : decode cX10_twice 9 = .ok (.aload_n 2, 1) := by decide +kernel
theorem dX10_twice_10 : decode cX10_twice 10 = .ok (.ifnonnull 13, 3) := by decide +kernel
theorem dX10_twice_13 : decode cX10_twice 13 = .ok (.new 61, 3) := by decide +kernel
theorem dX10_twice_16 : decode cX10_twice 16 = .ok (.dup, 1) := by decide +kernel
theorem dX10_twice_17 : decode cX10_twice 17 = .ok (.ldc 215, 2) := by decide +kernel
theorem dX10_twice_19 : decode cX10_twice 19 = .ok (.invokespecial 65, 3) := by decide +kernel
theorem dX10_twice_22 : decode cX10_twice 22 = .ok (.athrow, 1) := by decide +kernel
theorem dX10_twice_23 : decode cX10_twice 23 = .ok (.aload_n 2, 1) := by decide +kernel
theorem dX10_twice_24 : decode cX10_twice 24 = .ok (.invokevirtual 220, 3) := by decide +kernel
theorem dX10_twice_27 : decode cX10_twice 27 = .ok (.ifCond .ne 13, 3) := by decide +kernel
theorem dX10_twice_30 : decode cX10_twice 30 = .ok (.new 85, 3) := by decide +kernel
theorem dX10_twice_33 : decode cX10_twice 33 = .ok (.dup, 1) := by decide +kernel
theorem dX10_twice_34 : decode cX10_twice 34 = .ok (.ldc 223, 2) := by decide +kernel
theorem dX10_twice_36 : decode cX10_twice 36 = .ok (.invokespecial 89, 3) := by decide +kernel
theorem dX10_twice_39 : decode cX10_twice 39 = .ok (.athrow, 1) := by decide +kernel
theorem dX10_twice_40 : decode cX10_twice 40 = .ok (.aload_n 2, 1) := by decide +kernel
theorem dX10_twice_41 : decode cX10_twice 41 = .ok (.invokevirtual 225, 3) := by decide +kernel
theorem dX10_twice_44 : decode cX10_twice 44 = .ok (.aload_n 2, 1) := by decide +kernel
theorem dX10_twice_45 : decode cX10_twice 45 = .ok (.invokevirtual 217, 3) := by decide +kernel
theorem dX10_twice_48 : decode cX10_twice 48 = .ok (.ireturn, 1) := by decide +kernel
theorem dX10_lose_0 : decode cX10_lose 0 = .ok (.aload_n 0, 1) := by decide +kernel
theorem dX10_lose_1 : decode cX10_lose 1 = .ok (.getfield 21, 3) := by decide +kernel
theorem dX10_lose_4 : decode cX10_lose 4 = .ok (.iload_n 1, 1) := by decide +kernel
theorem dX10_lose_5 : decode cX10_lose 5 = .ok (.invokevirtual 201, 3) := by decide +kernel
theorem dX10_lose_8 : decode cX10_lose 8 = .ok (.astore_n 3, 1) := by decide +kernel
theorem dX10_lose_9 : decode cX10_lose 9 = .ok (.aload_n 3, 1) := by decide +kernel
theorem dX10_lose_10 : decode cX10_lose 10 = .ok (.ifnonnull 13, 3) := by decide +kernel
theorem dX10_lose_13 : decode cX10_lose 13 = .ok (.new 61, 3) := by decide +kernel
theorem dX10_lose_16 : decode cX10_lose 16 = .ok (.dup, 1) := by decide +kernel
theorem dX10_lose_17 : decode cX10_lose 17 = .ok (.ldc 215, 2) := by decide +kernel
theorem dX10_lose_19 : decode cX10_lose 19 = .ok (.invokespecial 65, 3) := by decide +kernel
theorem dX10_lose_22 : decode cX10_lose 22 = .ok (.athrow, 1) := by decide +kernel
theorem dX10_lose_23 : decode cX10_lose 23 = .ok (.iload_n 2, 1) := by decide +kernel
theorem dX10_lose_24 : decode cX10_lose 24 = .ok (.iconst 1, 1) := by decide +kernel
theorem dX10_lose_25 : decode cX10_lose 25 = .ok (.if_icmp .lt 9, 3) := by decide +kernel
theorem dX10_lose_28 : decode cX10_lose 28 = .ok (.iload_n 2, 1) := by decide +kernel
theorem dX10_lose_29 : decode cX10_lose 29 = .ok (.bipush 8, 2) := by decide +kernel
theorem dX10_lose_31 : decode cX10_lose 31 = .ok (.if_icmp .le 13, 3) := by decide +kernel
theorem dX10_lose_34 : decode cX10_lose 34 = .ok (.new 72, 3) := by decide +kernel
theorem dX10_lose_37 : decode cX10_lose 37 = .ok (.dup, 1) := by decide +kernel
theorem dX10_lose_38 : decode cX10_lose 38 = .ok (.ldc 228, 2) := by decide +kernel
theorem dX10_lose_40 : decode cX10_lose 40 = .ok (.invokespecial 76, 3) := by decide +kernel
theorem dX10_lose_43 : decode cX10_lose 43 = .ok (.athrow, 1) := by decide +kernel
theorem dX10_lose_44 : decode cX10_lose 44 = .ok (.aload_n 3, 1) := by decide +kernel
theorem dX10_lose_45 : decode cX10_lose 45 = .ok (.iload_n 2, 1) := by decide +kernel
theorem dX10_lose_46 : decode cX10_lose 46 = .ok (.invokevirtual 230, 3) := by decide +kernel
theorem dX10_lose_49 : decode cX10_lose 49 = .ok (.ireturn, 1) := by decide +kernel
theorem dX10_pass_0 : decode cX10_pass 0 = .ok (.iload_n 1, 1) := by decide +kernel
theorem dX10_pass_1 : decode cX10_pass 1 = .ok (.iconst 1, 1) := by decide +kernel
theorem dX10_pass_2 : decode cX10_pass 2 = .ok (.if_icmp .lt 10, 3) := by decide +kernel
theorem dX10_pass_5 : decode cX10_pass 5 = .ok (.iload_n 1, 1) := by decide +kernel
theorem dX10_pass_6 : decode cX10_pass 6 = .ok (.sipush 1000, 3) := by decide +kernel
theorem dX10_pass_9 : decode cX10_pass 9 = .ok (.if_icmp .le 13, 3) := by decide +kernel
theorem dX10_pass_12 : decode cX10_pass 12 = .ok (.new 72, 3) := by decide +kernel
theorem dX10_pass_15 : decode cX10_pass 15 = .ok (.dup, 1) := by decide +kernel
theorem dX10_pass_16 : decode cX10_pass 16 = .ok (.ldc 233, 2) := by decide +kernel
theorem dX10_pass_18 : decode cX10_pass 18 = .ok (.invokespecial 76, 3) := by decide +kernel
theorem dX10_pass_21 : decode cX10_pass 21 = .ok (.athrow, 1) := by decide +kernel
theorem dX10_pass_22 : decode cX10_pass 22 = .ok (.aload_n 0, 1) := by decide +kernel
theorem dX10_pass_23 : decode cX10_pass 23 = .ok (.getfield 235, 3) := by decide +kernel
theorem dX10_pass_26 : decode cX10_pass 26 = .ok (.iload_n 1, 1) := by decide +kernel
theorem dX10_pass_27 : decode cX10_pass 27 = .ok (.iadd, 1) := by decide +kernel
theorem dX10_pass_28 : decode cX10_pass 28 = .ok (.ldc 239, 2) := by decide +kernel
theorem dX10_pass_30 : decode cX10_pass 30 = .ok (.if_icmp .le 13, 3) := by decide +kernel
theorem dX10_pass_33 : decode cX10_pass 33 = .ok (.new 85, 3) := by decide +kernel
theorem dX10_pass_36 : decode cX10_pass 36 = .ok (.dup, 1) := by decide +kernel
theorem dX10_pass_37 : decode cX10_pass 37 = .ok (.ldc 240, 2) := by decide +kernel
theorem dX10_pass_39 : decode cX10_pass 39 = .ok (.invokespecial 89, 3) := by decide +kernel
theorem dX10_pass_42 : decode cX10_pass 42 = .ok (.athrow, 1) := by decide +kernel
theorem dX10_pass_43 : decode cX10_pass 43 = .ok (.aload_n 0, 1) := by decide +kernel
theorem dX10_pass_44 : decode cX10_pass 44 = .ok (.getfield 235, 3) := by decide +kernel
theorem dX10_pass_47 : decode cX10_pass 47 = .ok (.bipush 60, 2) := by decide +kernel
theorem dX10_pass_49 : decode cX10_pass 49 = .ok (.idiv, 1) := by decide +kernel
theorem dX10_pass_50 : decode cX10_pass 50 = .ok (.istore_n 2, 1) := by decide +kernel
theorem dX10_pass_51 : decode cX10_pass 51 = .ok (.aload_n 0, 1) := by decide +kernel
theorem dX10_pass_52 : decode cX10_pass 52 = .ok (.dup, 1) := by decide +kernel
theorem dX10_pass_53 : decode cX10_pass 53 = .ok (.getfield 235, 3) := by decide +kernel
theorem dX10_pass_56 : decode cX10_pass 56 = .ok (.iload_n 1, 1) := by decide +kernel
theorem dX10_pass_57 : decode cX10_pass 57 = .ok (.iadd, 1) := by decide +kernel
theorem dX10_pass_58 : decode cX10_pass 58 = .ok (.putfield 235, 3) := by decide +kernel
theorem dX10_pass_61 : decode cX10_pass 61 = .ok (.aload_n 0, 1) := by decide +kernel
theorem dX10_pass_62 : decode cX10_pass 62 = .ok (.getfield 235, 3) := by decide +kernel
theorem dX10_pass_65 : decode cX10_pass 65 = .ok (.bipush 60, 2) := by decide +kernel
theorem dX10_pass_67 : decode cX10_pass 67 = .ok (.idiv, 1) := by decide +kernel
theorem dX10_pass_68 : decode cX10_pass 68 = .ok (.iload_n 2, 1) := by decide +kernel
theorem dX10_pass_69 : decode cX10_pass 69 = .ok (.if_icmp .eq 8, 3) := by decide +kernel
theorem dX10_pass_72 : decode cX10_pass 72 = .ok (.aload_n 0, 1) := by decide +kernel
theorem dX10_pass_73 : decode cX10_pass 73 = .ok (.iconst 0, 1) := by decide +kernel
theorem dX10_pass_74 : decode cX10_pass 74 = .ok (.putfield 242, 3) := by decide +kernel
theorem dX10_pass_77 : decode cX10_pass 77 = .ok (.aload_n 0, 1) := by decide +kernel
theorem dX10_pass_78 : decode cX10_pass 78 = .ok (.getfield 235, 3) := by decide +kernel
theorem dX10_pass_81 : decode cX10_pass 81 = .ok (.ireturn, 1) := by decide +kernel
theorem dX10_battery_0 : decode cX10_battery 0 = .ok (.aload_n 0, 1) := by decide +kernel
theorem dX10_battery_1 : decode cX10_battery 1 = .ok (.getfield 245, 3) := by decide +kernel
theorem dX10_battery_4 : decode cX10_battery 4 = .ok (.istore_n 2, 1) := by decide +kernel
theorem dX10_battery_5 : decode cX10_battery 5 = .ok (.aload_n 0, 1) := by decide +kernel
theorem dX10_battery_6 : decode cX10_battery 6 = .ok (.iload_n 1, 1) := by decide +kernel
theorem dX10_battery_7 : decode cX10_battery 7 = .ok (.putfield 245, 3) := by decide +kernel
theorem dX10_battery_10 : decode cX10_battery 10 = .ok (.iload_n 2, 1) := by decide +kernel
theorem dX10_battery_11 : decode cX10_battery 11 = .ok (.ireturn, 1) := by decide +kernel
theorem dX10_limits_0 : decode cX10_limits 0 = .ok (.iload_n 1, 1) := by decide +kernel
theorem dX10_limits_1 : decode cX10_limits 1 = .ok (.ifCond .lt 19, 3) := by decide +kernel
theorem dX10_limits_4 : decode cX10_limits 4 = .ok (.iload_n 1, 1) := by decide +kernel
theorem dX10_limits_5 : decode cX10_limits 5 = .ok (.iconst 3, 1) := by decide +kernel
theorem dX10_limits_6 : decode cX10_limits 6 = .ok (.if_icmp .gt 14, 3) := by decide +kernel
theorem dX10_limits_9 : decode cX10_limits 9 = .ok (.iload_n 2, 1) := by decide +kernel
theorem dX10_limits_10 : decode cX10_limits 10 = .ok (.iconst 1, 1) := by decide +kernel
theorem dX10_limits_11 : decode cX10_limits 11 = .ok (.if_icmp .lt 9, 3) := by decide +kernel
theorem dX10_limits_14 : decode cX10_limits 14 = .ok (.iload_n 2, 1) := by decide +kernel
theorem dX10_limits_15 : decode cX10_limits 15 = .ok (.bipush 20, 2) := by decide +kernel
theorem dX10_limits_17 : decode cX10_limits 17 = .ok (.if_icmp .le 13, 3) := by decide +kernel
theorem dX10_limits_20 : decode cX10_limits 20 = .ok (.new 72, 3) := by decide +kernel
theorem dX10_limits_23 : decode cX10_limits 23 = .ok (.dup, 1) := by decide +kernel
theorem dX10_limits_24 : decode cX10_limits 24 = .ok (.ldc 249, 2) := by decide +kernel
theorem dX10_limits_26 : decode cX10_limits 26 = .ok (.invokespecial 76, 3) := by decide +kernel
theorem dX10_limits_29 : decode cX10_limits 29 = .ok (.athrow, 1) := by decide +kernel
theorem dX10_limits_30 : decode cX10_limits 30 = .ok (.aload_n 0, 1) := by decide +kernel
theorem dX10_limits_31 : decode cX10_limits 31 = .ok (.getfield 28, 3) := by decide +kernel
theorem dX10_limits_34 : decode cX10_limits 34 = .ok (.getfield 251, 3) := by decide +kernel
theorem dX10_limits_37 : decode cX10_limits 37 = .ok (.istore_n 3, 1) := by decide +kernel
theorem dX10_limits_38 : decode cX10_limits 38 = .ok (.aload_n 0, 1) := by decide +kernel
theorem dX10_limits_39 : decode cX10_limits 39 = .ok (.getfield 28, 3) := by decide +kernel
theorem dX10_limits_42 : decode cX10_limits 42 = .ok (.iload_n 1, 1) := by decide +kernel
theorem dX10_limits_43 : decode cX10_limits 43 = .ok (.putfield 254, 3) := by decide +kernel
theorem dX10_limits_46 : decode cX10_limits 46 = .ok (.aload_n 0, 1) := by decide +kernel
theorem dX10_limits_47 : decode cX10_limits 47 = .ok (.getfield 28, 3) := by decide +kernel
theorem dX10_limits_50 : decode cX10_limits 50 = .ok (.iload_n 2, 1) := by decide +kernel
theorem dX10_limits_51 : decode cX10_limits 51 = .ok (.putfield 251, 3) := by decide +kernel
theorem dX10_limits_54 : decode cX10_limits 54 = .ok (.iload_n 3, 1) := by decide +kernel
theorem dX10_limits_55 : decode cX10_limits 55 = .ok (.ireturn, 1) := by decide +kernel
theorem dX10_work_0 : decode cX10_work 0 = .ok (.iload_n 1, 1) := by decide +kernel
theorem dX10_work_1 : decode cX10_work 1 = .ok (.iconst 1, 1) := by decide +kernel
theorem dX10_work_2 : decode cX10_work 2 = .ok (.if_icmp .lt 10, 3) := by decide +kernel
theorem dX10_work_5 : decode cX10_work 5 = .ok (.iload_n 1, 1) := by decide +kernel
theorem dX10_work_6 : decode cX10_work 6 = .ok (.sipush 500, 3) := by decide +kernel
theorem dX10_work_9 : decode cX10_work 9 = .ok (.if_icmp .le 14, 3) := by decide +kernel
theorem dX10_work_12 : decode cX10_work 12 = .ok (.new 72, 3) := by decide +kernel
theorem dX10_work_15 : decode cX10_work 15 = .ok (.dup, 1) := by decide +kernel
theorem dX10_work_16 : decode cX10_work 16 = .ok (.ldc_w 257, 3) := by decide +kernel
theorem dX10_work_19 : decode cX10_work 19 = .ok (.invokespecial 76, 3) := by decide +kernel
theorem dX10_work_22 : decode cX10_work 22 = .ok (.athrow, 1) := by decide +kernel
theorem dX10_work_23 : decode cX10_work 23 = .ok (.aload_n 0, 1) := by decide +kernel
theorem dX10_work_24 : decode cX10_work 24 = .ok (.getfield 245, 3) := by decide +kernel
theorem dX10_work_27 : decode cX10_work 27 = .ok (.ifCond .ne 12, 3) := by decide +kernel
theorem dX10_work_30 : decode cX10_work 30 = .ok (.aload_n 0, 1) := by decide +kernel
theorem dX10_work_31 : decode cX10_work 31 = .ok (.getfield 46, 3) := by decide +kernel
theorem dX10_work_34 : decode cX10_work 34 = .ok (.iload_n 1, 1) := by decide +kernel
theorem dX10_work_35 : decode cX10_work 35 = .ok (.invokevirtual 259, 3) := by decide +kernel
theorem dX10_work_38 : decode cX10_work 38 = .ok (.ireturn, 1) := by decide +kernel
theorem dX10_work_39 : decode cX10_work 39 = .ok (.aload_n 0, 1) := by decide +kernel
theorem dX10_work_40 : decode cX10_work 40 = .ok (.getfield 46, 3) := by decide +kernel
theorem dX10_work_43 : decode cX10_work 43 = .ok (.iload_n 1, 1) := by decide +kernel
theorem dX10_work_44 : decode cX10_work 44 = .ok (.bipush 20, 2) := by decide +kernel
theorem dX10_work_46 : decode cX10_work 46 = .ok (.aload_n 0, 1) := by decide +kernel
theorem dX10_work_47 : decode cX10_work 47 = .ok (.getfield 242, 3) := by decide +kernel
theorem dX10_work_50 : decode cX10_work 50 = .ok (.isub, 1) := by decide +kernel
theorem dX10_work_51 : decode cX10_work 51 = .ok (.invokestatic 262, 3) := by decide +kernel
theorem dX10_work_54 : decode cX10_work 54 = .ok (.invokevirtual 259, 3) := by decide +kernel
theorem dX10_work_57 : decode cX10_work 57 = .ok (.istore_n 2, 1) := by decide +kernel
theorem dX10_work_58 : decode cX10_work 58 = .ok (.aload_n 0, 1) := by decide +kernel
theorem dX10_work_59 : decode cX10_work 59 = .ok (.dup, 1) := by decide +kernel
theorem dX10_work_60 : decode cX10_work 60 = .ok (.getfield 242, 3) := by decide +kernel
theorem dX10_work_63 : decode cX10_work 63 = .ok (.iload_n 2, 1) := by decide +kernel
theorem dX10_work_64 : decode cX10_work 64 = .ok (.iadd, 1) := by decide +kernel
theorem dX10_work_65 : decode cX10_work 65 = .ok (.putfield 242, 3) := by decide +kernel
theorem dX10_work_68 : decode cX10_work 68 = .ok (.iload_n 2, 1) := by decide +kernel
theorem dX10_work_69 : decode cX10_work 69 = .ok (.ireturn, 1) := by decide +kernel
theorem dX10_crawl_0 : decode cX10_crawl 0 = .ok (.aload_n 0, 1) := by decide +kernel
theorem dX10_crawl_1 : decode cX10_crawl 1 = .ok (.getfield 21, 3) := by decide +kernel
theorem dX10_crawl_4 : decode cX10_crawl 4 = .ok (.iload_n 1, 1) := by decide +kernel
theorem dX10_crawl_5 : decode cX10_crawl 5 = .ok (.invokevirtual 201, 3) := by decide +kernel
theorem dX10_crawl_8 : decode cX10_crawl 8 = .ok (.astore_n 2, 1) := by decide +kernel
theorem dX10_crawl_9 : decode cX10_crawl 9 = .ok (.aload_n 2, 1) := by decide +kernel
theorem dX10_crawl_10 : decode cX10_crawl 10 = .ok (.ifnonnull 13, 3) := by decide +kernel
theorem dX10_crawl_13 : decode cX10_crawl 13 = .ok (.new 61, 3) := by decide +kernel
theorem dX10_crawl_16 : decode cX10_crawl 16 = .ok (.dup, 1) := by decide +kernel
theorem dX10_crawl_17 : decode cX10_crawl 17 = .ok (.ldc 215, 2) := by decide +kernel
theorem dX10_crawl_19 : decode cX10_crawl 19 = .ok (.invokespecial 65, 3) := by decide +kernel
theorem dX10_crawl_22 : decode cX10_crawl 22 = .ok (.athrow, 1) := by decide +kernel
theorem dX10_crawl_23 : decode cX10_crawl 23 = .ok (.aload_n 2, 1) := by decide +kernel
theorem dX10_crawl_24 : decode cX10_crawl 24 = .ok (.invokevirtual 268, 3) := by decide +kernel
theorem dX10_crawl_27 : decode cX10_crawl 27 = .ok (.aload_n 0, 1) := by decide +kernel
theorem dX10_crawl_28 : decode cX10_crawl 28 = .ok (.getfield 21, 3) := by decide +kernel
theorem dX10_crawl_31 : decode cX10_crawl 31 = .ok (.invokevirtual 271, 3) := by decide +kernel
theorem dX10_crawl_34 : decode cX10_crawl 34 = .ok (.ireturn, 1) := by decide +kernel
theorem dX10_acts_0 : decode cX10_acts 0 = .ok (.aload_n 0, 1) := by decide +kernel
theorem dX10_acts_1 : decode cX10_acts 1 = .ok (.getfield 46, 3) := by decide +kernel
theorem dX10_acts_4 : decode cX10_acts 4 = .ok (.invokevirtual 274, 3) := by decide +kernel
theorem dX10_acts_7 : decode cX10_acts 7 = .ok (.ireturn, 1) := by decide +kernel
theorem dX10_isQuiet_0 : decode cX10_isQuiet 0 = .ok (.aload_n 0, 1) := by decide +kernel
theorem dX10_isQuiet_1 : decode cX10_isQuiet 1 = .ok (.getfield 21, 3) := by decide +kernel
theorem dX10_isQuiet_4 : decode cX10_isQuiet 4 = .ok (.invokevirtual 277, 3) := by decide +kernel
theorem dX10_isQuiet_7 : decode cX10_isQuiet 7 = .ok (.ifnonnull 27, 3) := by decide +kernel
theorem dX10_isQuiet_10 : decode cX10_isQuiet 10 = .ok (.aload_n 0, 1) := by decide +kernel
theorem dX10_isQuiet_11 : decode cX10_isQuiet 11 = .ok (.getfield 46, 3) := by decide +kernel
theorem dX10_isQuiet_14 : decode cX10_isQuiet 14 = .ok (.invokevirtual 274, 3) := by decide +kernel
theorem dX10_isQuiet_17 : decode cX10_isQuiet 17 = .ok (.ifCond .ne 17, 3) := by decide +kernel
theorem dX10_isQuiet_20 : decode cX10_isQuiet 20 = .ok (.aload_n 0, 1) := by decide +kernel
theorem dX10_isQuiet_21 : decode cX10_isQuiet 21 = .ok (.getfield 21, 3) := by decide +kernel
theorem dX10_isQuiet_24 : decode cX10_isQuiet 24 = .ok (.invokevirtual 271, 3) := by decide +kernel
theorem dX10_isQuiet_27 : decode cX10_isQuiet 27 = .ok (.ifCond .ne 7, 3) := by decide +kernel
theorem dX10_isQuiet_30 : decode cX10_isQuiet 30 = .ok (.iconst 1, 1) := by decide +kernel
theorem dX10_isQuiet_31 : decode cX10_isQuiet 31 = .ok (.goto 4, 3) := by decide +kernel
theorem dX10_isQuiet_34 : decode cX10_isQuiet 34 = .ok (.iconst 0, 1) := by decide +kernel
theorem dX10_isQuiet_35 : decode cX10_isQuiet 35 = .ok (.ireturn, 1) := by decide +kernel
theorem dX10_entries_0 : decode cX10_entries 0 = .ok (.aload_n 0, 1) := by decide +kernel
theorem dX10_entries_1 : decode cX10_entries 1 = .ok (.getfield 37, 3) := by decide +kernel
theorem dX10_entries_4 : decode cX10_entries 4 = .ok (.invokevirtual 281, 3) := by decide +kernel
theorem dX10_entries_7 : decode cX10_entries 7 = .ok (.ireturn, 1) := by decide +kernel
theorem dX10_edition_0 : decode cX10_edition 0 = .ok (.aload_n 0, 1) := by decide +kernel
theorem dX10_edition_1 : decode cX10_edition 1 = .ok (.getfield 10, 3) := by decide +kernel
theorem dX10_edition_4 : decode cX10_edition 4 = .ok (.iload_n 1, 1) := by decide +kernel
theorem dX10_edition_5 : decode cX10_edition 5 = .ok (.invokevirtual 282, 3) := by decide +kernel
theorem dX10_edition_8 : decode cX10_edition 8 = .ok (.ifCond .ne 14, 3) := by decide +kernel
theorem dX10_edition_11 : decode cX10_edition 11 = .ok (.new 61, 3) := by decide +kernel
theorem dX10_edition_14 : decode cX10_edition 14 = .ok (.dup, 1) := by decide +kernel
theorem dX10_edition_15 : decode cX10_edition 15 = .ok (.ldc_w 285, 3) := by decide +kernel
theorem dX10_edition_18 : decode cX10_edition 18 = .ok (.invokespecial 65, 3) := by decide +kernel
theorem dX10_edition_21 : decode cX10_edition 21 = .ok (.athrow, 1) := by decide +kernel
theorem dX10_edition_22 : decode cX10_edition 22 = .ok (.aload_n 0, 1) := by decide +kernel
theorem dX10_edition_23 : decode cX10_edition 23 = .ok (.getfield 37, 3) := by decide +kernel
theorem dX10_edition_26 : decode cX10_edition 26 = .ok (.iload_n 1, 1) := by decide +kernel
theorem dX10_edition_27 : decode cX10_edition 27 = .ok (.invokevirtual 287, 3) := by decide +kernel
theorem dX10_edition_30 : decode cX10_edition 30 = .ok (.ireturn, 1) := by decide +kernel
theorem dX10_stale_0 : decode cX10_stale 0 = .ok (.aload_n 0, 1) := by decide +kernel
theorem dX10_stale_1 : decode cX10_stale 1 = .ok (.getfield 37, 3) := by decide +kernel
theorem dX10_stale_4 : decode cX10_stale 4 = .ok (.invokevirtual 288, 3) := by decide +kernel
theorem dX10_stale_7 : decode cX10_stale 7 = .ok (.ireturn, 1) := by decide +kernel
theorem dX10_segments_0 : decode cX10_segments 0 = .ok (.aload_n 0, 1) := by decide +kernel
theorem dX10_segments_1 : decode cX10_segments 1 = .ok (.getfield 46, 3) := by decide +kernel
theorem dX10_segments_4 : decode cX10_segments 4 = .ok (.invokevirtual 291, 3) := by decide +kernel
theorem dX10_segments_7 : decode cX10_segments 7 = .ok (.ireturn, 1) := by decide +kernel
theorem dX10_dead_0 : decode cX10_dead 0 = .ok (.aload_n 0, 1) := by decide +kernel
theorem dX10_dead_1 : decode cX10_dead 1 = .ok (.getfield 46, 3) := by decide +kernel
theorem dX10_dead_4 : decode cX10_dead 4 = .ok (.invokevirtual 294, 3) := by decide +kernel
theorem dX10_dead_7 : decode cX10_dead 7 = .ok (.ireturn, 1) := by decide +kernel
theorem dX10_answers_0 : decode cX10_answers 0 = .ok (.iload_n 1, 1) := by decide +kernel
theorem dX10_answers_1 : decode cX10_answers 1 = .ok (.invokestatic 189, 3) := by decide +kernel
theorem dX10_answers_4 : decode cX10_answers 4 = .ok (.ifCond .eq 12, 3) := by decide +kernel
theorem dX10_answers_7 : decode cX10_answers 7 = .ok (.aload_n 0, 1) := by decide +kernel
theorem dX10_answers_8 : decode cX10_answers 8 = .ok (.iload 4, 2) := by decide +kernel
theorem dX10_answers_10 : decode cX10_answers 10 = .ok (.invokevirtual 297, 3) := by decide +kernel
theorem dX10_answers_13 : decode cX10_answers 13 = .ok (.ifCond .ne 14, 3) := by decide +kernel
theorem dX10_answers_16 : decode cX10_answers 16 = .ok (.new 61, 3) := by decide +kernel
theorem dX10_answers_19 : decode cX10_answers 19 = .ok (.dup, 1) := by decide +kernel
theorem dX10_answers_20 : decode cX10_answers 20 = .ok (.ldc_w 300, 3) := by decide +kernel
theorem dX10_answers_23 : decode cX10_answers 23 = .ok (.invokespecial 65, 3) := by decide +kernel
theorem dX10_answers_26 : decode cX10_answers 26 = .ok (.athrow, 1) := by decide +kernel
theorem dX10_answers_27 : decode cX10_answers 27 = .ok (.iload_n 2, 1) := by decide +kernel
theorem dX10_answers_28 : decode cX10_answers 28 = .ok (.invokestatic 103, 3) := by decide +kernel
theorem dX10_answers_31 : decode cX10_answers 31 = .ok (.ifCond .eq 10, 3) := by decide +kernel
theorem dX10_answers_34 : decode cX10_answers 34 = .ok (.iload_n 3, 1) := by decide +kernel
theorem dX10_answers_35 : decode cX10_answers 35 = .ok (.invokestatic 302, 3) := by decide +kernel
theorem dX10_answers_38 : decode cX10_answers 38 = .ok (.ifCond .ne 14, 3) := by decide +kernel
theorem dX10_answers_41 : decode cX10_answers 41 = .ok (.new 72, 3) := by decide +kernel
theorem dX10_answers_44 : decode cX10_answers 44 = .ok (.dup, 1) := by decide +kernel
theorem dX10_answers_45 : decode cX10_answers 45 = .ok (.ldc_w 305, 3) := by decide +kernel
theorem dX10_answers_48 : decode cX10_answers 48 = .ok (.invokespecial 76, 3) := by decide +kernel
theorem dX10_answers_51 : decode cX10_answers 51 = .ok (.athrow, 1) := by decide +kernel
theorem dX10_answers_52 : decode cX10_answers 52 = .ok (.aload_n 0, 1) := by decide +kernel
theorem dX10_answers_53 : decode cX10_answers 53 = .ok (.getfield 53, 3) := by decide +kernel
theorem dX10_answers_56 : decode cX10_answers 56 = .ok (.iload_n 1, 1) := by decide +kernel
theorem dX10_answers_57 : decode cX10_answers 57 = .ok (.iload_n 2, 1) := by decide +kernel
theorem dX10_answers_58 : decode cX10_answers 58 = .ok (.iload_n 3, 1) := by decide +kernel
theorem dX10_answers_59 : decode cX10_answers 59 = .ok (.iload 4, 2) := by decide +kernel
theorem dX10_answers_61 : decode cX10_answers 61 = .ok (.invokevirtual 307, 3) := by decide +kernel
theorem dX10_answers_64 : decode cX10_answers 64 = .ok (.ireturn, 1) := by decide +kernel
theorem dX10_answersAnew_0 : decode cX10_answersAnew 0 = .ok (.iload_n 1, 1) := by decide +kernel
theorem dX10_answersAnew_1 : decode cX10_answersAnew 1 = .ok (.invokestatic 189, 3) := by decide +kernel
theorem dX10_answersAnew_4 : decode cX10_answersAnew 4 = .ok (.ifCond .eq 12, 3) := by decide +kernel
theorem dX10_answersAnew_7 : decode cX10_answersAnew 7 = .ok (.aload_n 0, 1) := by decide +kernel
theorem dX10_answersAnew_8 : decode cX10_answersAnew 8 = .ok (.iload 4, 2) := by decide +kernel
theorem dX10_answersAnew_10 : decode cX10_answersAnew 10 = .ok (.invokevirtual 297, 3) := by decide +kernel
theorem dX10_answersAnew_13 : decode cX10_answersAnew 13 = .ok (.ifCond .ne 14, 3) := by decide +kernel
theorem dX10_answersAnew_16 : decode cX10_answersAnew 16 = .ok (.new 61, 3) := by decide +kernel
theorem dX10_answersAnew_19 : decode cX10_answersAnew 19 = .ok (.dup, 1) := by decide +kernel
theorem dX10_answersAnew_20 : decode cX10_answersAnew 20 = .ok (.ldc_w 300, 3) := by decide +kernel
theorem dX10_answersAnew_23 : decode cX10_answersAnew 23 = .ok (.invokespecial 65, 3) := by decide +kernel
theorem dX10_answersAnew_26 : decode cX10_answersAnew 26 = .ok (.athrow, 1) := by decide +kernel
theorem dX10_answersAnew_27 : decode cX10_answersAnew 27 = .ok (.iload_n 2, 1) := by decide +kernel
theorem dX10_answersAnew_28 : decode cX10_answersAnew 28 = .ok (.invokestatic 103, 3) := by decide +kernel
theorem dX10_answersAnew_31 : decode cX10_answersAnew 31 = .ok (.ifCond .eq 10, 3) := by decide +kernel
theorem dX10_answersAnew_34 : decode cX10_answersAnew 34 = .ok (.iload_n 3, 1) := by decide +kernel
theorem dX10_answersAnew_35 : decode cX10_answersAnew 35 = .ok (.invokestatic 302, 3) := by decide +kernel
theorem dX10_answersAnew_38 : decode cX10_answersAnew 38 = .ok (.ifCond .ne 14, 3) := by decide +kernel
theorem dX10_answersAnew_41 : decode cX10_answersAnew 41 = .ok (.new 72, 3) := by decide +kernel
theorem dX10_answersAnew_44 : decode cX10_answersAnew 44 = .ok (.dup, 1) := by decide +kernel
theorem dX10_answersAnew_45 : decode cX10_answersAnew 45 = .ok (.ldc_w 305, 3) := by decide +kernel
theorem dX10_answersAnew_48 : decode cX10_answersAnew 48 = .ok (.invokespecial 76, 3) := by decide +kernel
theorem dX10_answersAnew_51 : decode cX10_answersAnew 51 = .ok (.athrow, 1) := by decide +kernel
theorem dX10_answersAnew_52 : decode cX10_answersAnew 52 = .ok (.aload_n 0, 1) := by decide +kernel
theorem dX10_answersAnew_53 : decode cX10_answersAnew 53 = .ok (.getfield 53, 3) := by decide +kernel
theorem dX10_answersAnew_56 : decode cX10_answersAnew 56 = .ok (.iload_n 1, 1) := by decide +kernel
theorem dX10_answersAnew_57 : decode cX10_answersAnew 57 = .ok (.iload_n 2, 1) := by decide +kernel
theorem dX10_answersAnew_58 : decode cX10_answersAnew 58 = .ok (.iload_n 3, 1) := by decide +kernel
theorem dX10_answersAnew_59 : decode cX10_answersAnew 59 = .ok (.iload 4, 2) := by decide +kernel
theorem dX10_answersAnew_61 : decode cX10_answersAnew 61 = .ok (.invokevirtual 310, 3) := by decide +kernel
theorem dX10_answersAnew_64 : decode cX10_answersAnew 64 = .ok (.ireturn, 1) := by decide +kernel
theorem dX10_answer_0 : decode cX10_answer 0 = .ok (.iload_n 1, 1) := by decide +kernel
theorem dX10_answer_1 : decode cX10_answer 1 = .ok (.invokestatic 189, 3) := by decide +kernel
theorem dX10_answer_4 : decode cX10_answer 4 = .ok (.ifCond .ne 14, 3) := by decide +kernel
theorem dX10_answer_7 : decode cX10_answer 7 = .ok (.new 61, 3) := by decide +kernel
theorem dX10_answer_10 : decode cX10_answer 10 = .ok (.dup, 1) := by decide +kernel
theorem dX10_answer_11 : decode cX10_answer 11 = .ok (.ldc_w 313, 3) := by decide +kernel
theorem dX10_answer_14 : decode cX10_answer 14 = .ok (.invokespecial 65, 3) := by decide +kernel
theorem dX10_answer_17 : decode cX10_answer 17 = .ok (.athrow, 1) := by decide +kernel
theorem dX10_answer_18 : decode cX10_answer 18 = .ok (.iload_n 2, 1) := by decide +kernel
theorem dX10_answer_19 : decode cX10_answer 19 = .ok (.invokestatic 103, 3) := by decide +kernel
theorem dX10_answer_22 : decode cX10_answer 22 = .ok (.ifCond .eq 10, 3) := by decide +kernel
theorem dX10_answer_25 : decode cX10_answer 25 = .ok (.iload_n 3, 1) := by decide +kernel
theorem dX10_answer_26 : decode cX10_answer 26 = .ok (.invokestatic 302, 3) := by decide +kernel
theorem dX10_answer_29 : decode cX10_answer 29 = .ok (.ifCond .ne 14, 3) := by decide +kernel
theorem dX10_answer_32 : decode cX10_answer 32 = .ok (.new 72, 3) := by decide +kernel
theorem dX10_answer_35 : decode cX10_answer 35 = .ok (.dup, 1) := by decide +kernel
theorem dX10_answer_36 : decode cX10_answer 36 = .ok (.ldc_w 305, 3) := by decide +kernel
theorem dX10_answer_39 : decode cX10_answer 39 = .ok (.invokespecial 76, 3) := by decide +kernel
theorem dX10_answer_42 : decode cX10_answer 42 = .ok (.athrow, 1) := by decide +kernel
theorem dX10_answer_43 : decode cX10_answer 43 = .ok (.aload_n 0, 1) := by decide +kernel
theorem dX10_answer_44 : decode cX10_answer 44 = .ok (.getfield 53, 3) := by decide +kernel
theorem dX10_answer_47 : decode cX10_answer 47 = .ok (.iload_n 1, 1) := by decide +kernel
theorem dX10_answer_48 : decode cX10_answer 48 = .ok (.iload_n 2, 1) := by decide +kernel
theorem dX10_answer_49 : decode cX10_answer 49 = .ok (.iload_n 3, 1) := by decide +kernel
theorem dX10_answer_50 : decode cX10_answer 50 = .ok (.iload 4, 2) := by decide +kernel
theorem dX10_answer_52 : decode cX10_answer 52 = .ok (.invokevirtual 315, 3) := by decide +kernel
theorem dX10_answer_55 : decode cX10_answer 55 = .ok (.istore 5, 2) := by decide +kernel
theorem dX10_answer_57 : decode cX10_answer 57 = .ok (.iload 5, 2) := by decide +kernel
theorem dX10_answer_59 : decode cX10_answer 59 = .ok (.iconst (-1), 1) := by decide +kernel
theorem dX10_answer_60 : decode cX10_answer 60 = .ok (.if_icmp .ne 14, 3) := by decide +kernel
theorem dX10_answer_63 : decode cX10_answer 63 = .ok (.new 61, 3) := by decide +kernel
theorem dX10_answer_66 : decode cX10_answer 66 = .ok (.dup, 1) := by decide +kernel
theorem dX10_answer_67 : decode cX10_answer 67 = .ok (.ldc_w 318, 3) := by decide +kernel
theorem dX10_answer_70 : decode cX10_answer 70 = .ok (.invokespecial 65, 3) := by decide +kernel
theorem dX10_answer_73 : decode cX10_answer 73 = .ok (.athrow, 1) := by decide +kernel
theorem dX10_answer_74 : decode cX10_answer 74 = .ok (.iload 5, 2) := by decide +kernel
theorem dX10_answer_76 : decode cX10_answer 76 = .ok (.ireturn, 1) := by decide +kernel
theorem dX10_closest_0 : decode cX10_closest 0 = .ok (.iload_n 1, 1) := by decide +kernel
theorem dX10_closest_1 : decode cX10_closest 1 = .ok (.invokestatic 189, 3) := by decide +kernel
theorem dX10_closest_4 : decode cX10_closest 4 = .ok (.ifCond .eq 26, 3) := by decide +kernel
theorem dX10_closest_7 : decode cX10_closest 7 = .ok (.aload_n 0, 1) := by decide +kernel
theorem dX10_closest_8 : decode cX10_closest 8 = .ok (.getfield 10, 3) := by decide +kernel
theorem dX10_closest_11 : decode cX10_closest 11 = .ok (.iload_n 2, 1) := by decide +kernel
theorem dX10_closest_12 : decode cX10_closest 12 = .ok (.invokevirtual 98, 3) := by decide +kernel
theorem dX10_closest_15 : decode cX10_closest 15 = .ok (.ifCond .eq 15, 3) := by decide +kernel
theorem dX10_closest_18 : decode cX10_closest 18 = .ok (.aload_n 0, 1) := by decide +kernel
theorem dX10_closest_19 : decode cX10_closest 19 = .ok (.getfield 10, 3) := by decide +kernel
theorem dX10_closest_22 : decode cX10_closest 22 = .ok (.iload_n 1, 1) := by decide +kernel
theorem dX10_closest_23 : decode cX10_closest 23 = .ok (.iload_n 2, 1) := by decide +kernel
theorem dX10_closest_24 : decode cX10_closest 24 = .ok (.invokevirtual 194, 3) := by decide +kernel
theorem dX10_closest_27 : decode cX10_closest 27 = .ok (.ifCond .ne 14, 3) := by decide +kernel
theorem dX10_closest_30 : decode cX10_closest 30 = .ok (.new 61, 3) := by decide +kernel
theorem dX10_closest_33 : decode cX10_closest 33 = .ok (.dup, 1) := by decide +kernel
theorem dX10_closest_34 : decode cX10_closest 34 = .ok (.ldc_w 320, 3) := by decide +kernel
theorem dX10_closest_37 : decode cX10_closest 37 = .ok (.invokespecial 65, 3) := by decide +kernel
theorem dX10_closest_40 : decode cX10_closest 40 = .ok (.athrow, 1) := by decide +kernel
theorem dX10_closest_41 : decode cX10_closest 41 = .ok (.iload_n 3, 1) := by decide +kernel
theorem dX10_closest_42 : decode cX10_closest 42 = .ok (.invokestatic 103, 3) := by decide +kernel
theorem dX10_closest_45 : decode cX10_closest 45 = .ok (.ifCond .eq 11, 3) := by decide +kernel
theorem dX10_closest_48 : decode cX10_closest 48 = .ok (.iload 4, 2) := by decide +kernel
theorem dX10_closest_50 : decode cX10_closest 50 = .ok (.invokestatic 103, 3) := by decide +kernel
theorem dX10_closest_53 : decode cX10_closest 53 = .ok (.ifCond .ne 14, 3) := by decide +kernel
theorem dX10_closest_56 : decode cX10_closest 56 = .ok (.new 72, 3) := by decide +kernel
theorem dX10_closest_59 : decode cX10_closest 59 = .ok (.dup, 1) := by decide +kernel
theorem dX10_closest_60 : decode cX10_closest 60 = .ok (.ldc_w 305, 3) := by decide +kernel
theorem dX10_closest_63 : decode cX10_closest 63 = .ok (.invokespecial 76, 3) := by decide +kernel
theorem dX10_closest_66 : decode cX10_closest 66 = .ok (.athrow, 1) := by decide +kernel
theorem dX10_closest_67 : decode cX10_closest 67 = .ok (.aload_n 0, 1) := by decide +kernel
theorem dX10_closest_68 : decode cX10_closest 68 = .ok (.getfield 53, 3) := by decide +kernel
theorem dX10_closest_71 : decode cX10_closest 71 = .ok (.iload_n 2, 1) := by decide +kernel
theorem dX10_closest_72 : decode cX10_closest 72 = .ok (.iload_n 3, 1) := by decide +kernel
theorem dX10_closest_73 : decode cX10_closest 73 = .ok (.iload 4, 2) := by decide +kernel
theorem dX10_closest_75 : decode cX10_closest 75 = .ok (.invokevirtual 322, 3) := by decide +kernel
theorem dX10_closest_78 : decode cX10_closest 78 = .ok (.ireturn, 1) := by decide +kernel
theorem dX10_isMadeOrNone_0 : decode cX10_isMadeOrNone 0 = .ok (.iload_n 1, 1) := by decide +kernel
theorem dX10_isMadeOrNone_1 : decode cX10_isMadeOrNone 1 = .ok (.iconst (-1), 1) := by decide +kernel
theorem dX10_isMadeOrNone_2 : decode cX10_isMadeOrNone 2 = .ok (.if_icmp .eq 14, 3) := by decide +kernel
theorem dX10_isMadeOrNone_5 : decode cX10_isMadeOrNone 5 = .ok (.aload_n 0, 1) := by decide +kernel
theorem dX10_isMadeOrNone_6 : decode cX10_isMadeOrNone 6 = .ok (.getfield 10, 3) := by decide +kernel
theorem dX10_isMadeOrNone_9 : decode cX10_isMadeOrNone 9 = .ok (.iload_n 1, 1) := by decide +kernel
theorem dX10_isMadeOrNone_10 : decode cX10_isMadeOrNone 10 = .ok (.invokevirtual 282, 3) := by decide +kernel
theorem dX10_isMadeOrNone_13 : decode cX10_isMadeOrNone 13 = .ok (.ifCond .eq 7, 3) := by decide +kernel
theorem dX10_isMadeOrNone_16 : decode cX10_isMadeOrNone 16 = .ok (.iconst 1, 1) := by decide +kernel
theorem dX10_isMadeOrNone_17 : decode cX10_isMadeOrNone 17 = .ok (.goto 4, 3) := by decide +kernel
theorem dX10_isMadeOrNone_20 : decode cX10_isMadeOrNone 20 = .ok (.iconst 0, 1) := by decide +kernel
theorem dX10_isMadeOrNone_21 : decode cX10_isMadeOrNone 21 = .ok (.ireturn, 1) := by decide +kernel
theorem dX10_isName_0 : decode cX10_isName 0 = .ok (.iload_n 0, 1) := by decide +kernel
theorem dX10_isName_1 : decode cX10_isName 1 = .ok (.bipush 97, 2) := by decide +kernel
theorem dX10_isName_3 : decode cX10_isName 3 = .ok (.if_icmp .lt 13, 3) := by decide +kernel
theorem dX10_isName_6 : decode cX10_isName 6 = .ok (.iload_n 0, 1) := by decide +kernel
theorem dX10_isName_7 : decode cX10_isName 7 = .ok (.bipush 122, 2) := by decide +kernel
theorem dX10_isName_9 : decode cX10_isName 9 = .ok (.if_icmp .gt 7, 3) := by decide +kernel
theorem dX10_isName_12 : decode cX10_isName 12 = .ok (.iconst 1, 1) := by decide +kernel
theorem dX10_isName_13 : decode cX10_isName 13 = .ok (.goto 4, 3) := by decide +kernel
theorem dX10_isName_16 : decode cX10_isName 16 = .ok (.iconst 0, 1) := by decide +kernel
theorem dX10_isName_17 : decode cX10_isName 17 = .ok (.ireturn, 1) := by decide +kernel
theorem dX10_isPerson_0 : decode cX10_isPerson 0 = .ok (.iload_n 0, 1) := by decide +kernel
theorem dX10_isPerson_1 : decode cX10_isPerson 1 = .ok (.ifCond .lt 12, 3) := by decide +kernel
theorem dX10_isPerson_4 : decode cX10_isPerson 4 = .ok (.iload_n 0, 1) := by decide +kernel
theorem dX10_isPerson_5 : decode cX10_isPerson 5 = .ok (.iconst 4, 1) := by decide +kernel
theorem dX10_isPerson_6 : decode cX10_isPerson 6 = .ok (.if_icmp .ge 7, 3) := by decide +kernel
theorem dX10_isPerson_9 : decode cX10_isPerson 9 = .ok (.iconst 1, 1) := by decide +kernel
theorem dX10_isPerson_10 : decode cX10_isPerson 10 = .ok (.goto 4, 3) := by decide +kernel
theorem dX10_isPerson_13 : decode cX10_isPerson 13 = .ok (.iconst 0, 1) := by decide +kernel
theorem dX10_isPerson_14 : decode cX10_isPerson 14 = .ok (.ireturn, 1) := by decide +kernel
theorem dX10_isWord_0 : decode cX10_isWord 0 = .ok (.iload_n 0, 1) := by decide +kernel
theorem dX10_isWord_1 : decode cX10_isWord 1 = .ok (.ifCond .lt 13, 3) := by decide +kernel
theorem dX10_isWord_4 : decode cX10_isWord 4 = .ok (.iload_n 0, 1) := by decide +kernel
theorem dX10_isWord_5 : decode cX10_isWord 5 = .ok (.bipush 99, 2) := by decide +kernel
theorem dX10_isWord_7 : decode cX10_isWord 7 = .ok (.if_icmp .gt 7, 3) := by decide +kernel
theorem dX10_isWord_10 : decode cX10_isWord 10 = .ok (.iconst 1, 1) := by decide +kernel
theorem dX10_isWord_11 : decode cX10_isWord 11 = .ok (.goto 4, 3) := by decide +kernel
theorem dX10_isWord_14 : decode cX10_isWord 14 = .ok (.iconst 0, 1) := by decide +kernel
theorem dX10_isWord_15 : decode cX10_isWord 15 = .ok (.ireturn, 1) := by decide +kernel
theorem dX10_isWordOrNone_0 : decode cX10_isWordOrNone 0 = .ok (.iload_n 0, 1) := by decide +kernel
theorem dX10_isWordOrNone_1 : decode cX10_isWordOrNone 1 = .ok (.iconst (-1), 1) := by decide +kernel
theorem dX10_isWordOrNone_2 : decode cX10_isWordOrNone 2 = .ok (.if_icmp .eq 10, 3) := by decide +kernel
theorem dX10_isWordOrNone_5 : decode cX10_isWordOrNone 5 = .ok (.iload_n 0, 1) := by decide +kernel
theorem dX10_isWordOrNone_6 : decode cX10_isWordOrNone 6 = .ok (.invokestatic 103, 3) := by decide +kernel
theorem dX10_isWordOrNone_9 : decode cX10_isWordOrNone 9 = .ok (.ifCond .eq 7, 3) := by decide +kernel
theorem dX10_isWordOrNone_12 : decode cX10_isWordOrNone 12 = .ok (.iconst 1, 1) := by decide +kernel
theorem dX10_isWordOrNone_13 : decode cX10_isWordOrNone 13 = .ok (.goto 4, 3) := by decide +kernel
theorem dX10_isWordOrNone_16 : decode cX10_isWordOrNone 16 = .ok (.iconst 0, 1) := by decide +kernel
theorem dX10_isWordOrNone_17 : decode cX10_isWordOrNone 17 = .ok (.ireturn, 1) := by decide +kernel
end
section
/-- how a method ends, by the kind of its answer -/
def oI (X : JX) (v : Int32) : JE := (none, some (.int v), X)
def oM (v : Int32 × JX) : JE := (none, some (.int v.1), v.2)
def oU (v : JX) : JE := (none, none, v)
def oR (ad : Nat → Nat) (X : JX) (v : Nat) : JE := (none, some (.ref (ad v)), X)
def oO (ad : Nat → Nat) (X : JX) (v : Option Nat) : JE := (none, some (va_rf (v.map ad)), X)
def oT (v : Option Nat × Int32 × JX) : JE := (v.1, some (.int v.2.1), v.2.2)
end
section
theorem jf_X9_parentOf {κ : JK} (K : jOk 2 cX9_parentOf RX9 (some .int) 0 κ) (X : JX) (v1 : Int32) {r : Int32} (F : jFin LX false (oI X r) κ) (hr : f_X9_parentOf X v1 = some r) : J LX 2 κ X 0 [(0, .ref (jad κ (1))), (1, .int v1)] [] := by
  unfold f_X9_parentOf at hr
  refine j_iload_n K dX9_parentOf_0 1 rfl ?_
  refine j_if_lt K dX9_parentOf_1 (tgt := 19) (by decide) hr (fun hr => ?_) (fun hr => ?_)
  · refine j_iconst K dX9_parentOf_19 (v := -1) rfl ?_
    exact j_ireturn K dX9_parentOf_20 rfl F hr rfl
  · refine j_iload_n K dX9_parentOf_4 1 rfl ?_
    refine j_bipush K dX9_parentOf_5 (v := 60) rfl ?_
    refine j_icmp_ge K dX9_parentOf_7 (tgt := 19) (by decide) hr (fun hr => ?_) (fun hr => ?_)
    · refine j_iconst K dX9_parentOf_19 (v := -1) rfl ?_
      exact j_ireturn K dX9_parentOf_20 rfl F hr rfl
    · refine j_aload_n K dX9_parentOf_10 0 rfl ?_
      refine j_get K (v := .ref (jad κ (2))) fl_X9_9 rfl (Nat.le_of_ble_eq_true rfl) (by decide) rfl dX9_parentOf_11 ?_
      refine j_iload_n K dX9_parentOf_14 1 rfl ?_
      refine j_iaload K (z := 60) rfl (Nat.le_of_ble_eq_true rfl) dX9_parentOf_15 hr (fun hr => ?_)
      refine j_goto K dX9_parentOf_16 (tgt := 20) (by decide) ?_
      exact j_ireturn K dX9_parentOf_20 rfl F hr rfl
theorem c_X9_parentOf (X : JX) (v1 : Int32) {r : Int32} (hr : f_X9_parentOf X v1 = some r) : Cal LX yX9_parentOf cX9_parentOf 2 (some .int) 0 (fun ad => [.ref (ad (1)), .int v1]) X (fun ad => oI X r) :=
  Cal.of (own := RX9) (fun ad => [(0, .ref (ad (1))), (1, .int v1)]) (by decide) rfl (fun _ => Nat.le_of_ble_eq_true rfl) (fun _ => rfl) (fun κ K F => jf_X9_parentOf K X v1 F hr)
theorem jf_X9_isFile {κ : JK} (K : jOk 2 cX9_isFile RX9 (some .boolean) 0 κ) (X : JX) (v1 : Int32) {r : Int32} (F : jFin LX false (oI X r) κ) (hr : f_X9_isFile X v1 = some r) : J LX 2 κ X 0 [(0, .ref (jad κ (1))), (1, .int v1)] [] := by
  unfold f_X9_isFile at hr
  refine j_iload_n K dX9_isFile_0 1 rfl ?_
  refine j_if_lt K dX9_isFile_1 (tgt := 32) (by decide) hr (fun hr => ?_) (fun hr => ?_)
  · refine j_iconst K dX9_isFile_32 (v := 0) rfl ?_
    exact j_zreturn K dX9_isFile_33 rfl rfl F hr rfl
  · refine j_iload_n K dX9_isFile_4 1 rfl ?_
    refine j_bipush K dX9_isFile_5 (v := 60) rfl ?_
    refine j_icmp_ge K dX9_isFile_7 (tgt := 32) (by decide) hr (fun hr => ?_) (fun hr => ?_)
    · refine j_iconst K dX9_isFile_32 (v := 0) rfl ?_
      exact j_zreturn K dX9_isFile_33 rfl rfl F hr rfl
    · refine j_aload_n K dX9_isFile_10 0 rfl ?_
      refine j_get K (v := .ref (jad κ (5))) fl_X9_23 rfl (Nat.le_of_ble_eq_true rfl) (by decide) rfl dX9_isFile_11 ?_
      refine j_iload_n K dX9_isFile_14 1 rfl ?_
      refine j_baload K (z := 60) rfl (Nat.le_of_ble_eq_true rfl) dX9_isFile_15 hr (fun hr => ?_)
      refine j_if_eq K dX9_isFile_16 (tgt := 32) (by decide) hr (fun hr => ?_) (fun hr => ?_)
      · refine j_iconst K dX9_isFile_32 (v := 0) rfl ?_
        exact j_zreturn K dX9_isFile_33 rfl rfl F hr rfl
      · refine j_aload_n K dX9_isFile_19 0 rfl ?_
        refine j_get K (v := .ref (jad κ (4))) fl_X9_19 rfl (Nat.le_of_ble_eq_true rfl) (by decide) rfl dX9_isFile_20 ?_
        refine j_iload_n K dX9_isFile_23 1 rfl ?_
        refine j_baload K (z := 60) rfl (Nat.le_of_ble_eq_true rfl) dX9_isFile_24 hr (fun hr => ?_)
        refine j_if_ne K dX9_isFile_25 (tgt := 32) (by decide) hr (fun hr => ?_) (fun hr => ?_)
        · refine j_iconst K dX9_isFile_32 (v := 0) rfl ?_
          exact j_zreturn K dX9_isFile_33 rfl rfl F hr rfl
        · refine j_iconst K dX9_isFile_28 (v := 1) rfl ?_
          refine j_goto K dX9_isFile_29 (tgt := 33) (by decide) ?_
          exact j_zreturn K dX9_isFile_33 rfl rfl F hr rfl
theorem c_X9_isFile (X : JX) (v1 : Int32) {r : Int32} (hr : f_X9_isFile X v1 = some r) : Cal LX yX9_isFile cX9_isFile 2 (some .boolean) 0 (fun ad => [.ref (ad (1)), .int v1]) X (fun ad => oI X r) :=
  Cal.of (own := RX9) (fun ad => [(0, .ref (ad (1))), (1, .int v1)]) (by decide) rfl (fun _ => Nat.le_of_ble_eq_true rfl) (fun _ => rfl) (fun κ K F => jf_X9_isFile K X v1 F hr)
theorem jf_X9_nameOf {κ : JK} (K : jOk 2 cX9_nameOf RX9 (some .char) 0 κ) (X : JX) (v1 : Int32) {r : Int32} (F : jFin LX false (oI X r) κ) (hr : f_X9_nameOf X v1 = some r) : J LX 2 κ X 0 [(0, .ref (jad κ (1))), (1, .int v1)] [] := by
  unfold f_X9_nameOf at hr
  refine j_iload_n K dX9_nameOf_0 1 rfl ?_
  refine j_if_lt K dX9_nameOf_1 (tgt := 19) (by decide) hr (fun hr => ?_) (fun hr => ?_)
  · refine j_bipush K dX9_nameOf_19 (v := 32) rfl ?_
    exact j_guard hr (fun hz hr => j_creturn K dX9_nameOf_21 rfl hz F hr rfl)
  · refine j_iload_n K dX9_nameOf_4 1 rfl ?_
    refine j_bipush K dX9_nameOf_5 (v := 60) rfl ?_
    refine j_icmp_ge K dX9_nameOf_7 (tgt := 19) (by decide) hr (fun hr => ?_) (fun hr => ?_)
    · refine j_bipush K dX9_nameOf_19 (v := 32) rfl ?_
      exact j_guard hr (fun hz hr => j_creturn K dX9_nameOf_21 rfl hz F hr rfl)
    · refine j_aload_n K dX9_nameOf_10 0 rfl ?_
      refine j_get K (v := .ref (jad κ (3))) fl_X9_15 rfl (Nat.le_of_ble_eq_true rfl) (by decide) rfl dX9_nameOf_11 ?_
      refine j_iload_n K dX9_nameOf_14 1 rfl ?_
      refine j_caload K (z := 60) rfl (Nat.le_of_ble_eq_true rfl) dX9_nameOf_15 hr (fun hr => ?_)
      refine j_goto K dX9_nameOf_16 (tgt := 21) (by decide) ?_
      exact j_guard hr (fun hz hr => j_creturn K dX9_nameOf_21 rfl hz F hr rfl)
theorem c_X9_nameOf (X : JX) (v1 : Int32) {r : Int32} (hr : f_X9_nameOf X v1 = some r) : Cal LX yX9_nameOf cX9_nameOf 2 (some .char) 0 (fun ad => [.ref (ad (1)), .int v1]) X (fun ad => oI X r) :=
  Cal.of (own := RX9) (fun ad => [(0, .ref (ad (1))), (1, .int v1)]) (by decide) rfl (fun _ => Nat.le_of_ble_eq_true rfl) (fun _ => rfl) (fun κ K F => jf_X9_nameOf K X v1 F hr)
theorem jf_X9_editionOf {κ : JK} (K : jOk 2 cX9_editionOf RX9 (some .int) 0 κ) (X : JX) (v1 : Int32) {r : Int32} (F : jFin LX false (oI X r) κ) (hr : f_X9_editionOf X v1 = some r) : J LX 2 κ X 0 [(0, .ref (jad κ (1))), (1, .int v1)] [] := by
  unfold f_X9_editionOf at hr
  refine j_iload_n K dX9_editionOf_0 1 rfl ?_
  refine j_if_lt K dX9_editionOf_1 (tgt := 19) (by decide) hr (fun hr => ?_) (fun hr => ?_)
  · refine j_iconst K dX9_editionOf_19 (v := 0) rfl ?_
    exact j_ireturn K dX9_editionOf_20 rfl F hr rfl
  · refine j_iload_n K dX9_editionOf_4 1 rfl ?_
    refine j_bipush K dX9_editionOf_5 (v := 60) rfl ?_
    refine j_icmp_ge K dX9_editionOf_7 (tgt := 19) (by decide) hr (fun hr => ?_) (fun hr => ?_)
    · refine j_iconst K dX9_editionOf_19 (v := 0) rfl ?_
      exact j_ireturn K dX9_editionOf_20 rfl F hr rfl
    · refine j_aload_n K dX9_editionOf_10 0 rfl ?_
      refine j_get K (v := .ref (jad κ (8))) fl_X9_32 rfl (Nat.le_of_ble_eq_true rfl) (by decide) rfl dX9_editionOf_11 ?_
      refine j_iload_n K dX9_editionOf_14 1 rfl ?_
      refine j_iaload K (z := 60) rfl (Nat.le_of_ble_eq_true rfl) dX9_editionOf_15 hr (fun hr => ?_)
      refine j_goto K dX9_editionOf_16 (tgt := 20) (by decide) ?_
      exact j_ireturn K dX9_editionOf_20 rfl F hr rfl
theorem c_X9_editionOf (X : JX) (v1 : Int32) {r : Int32} (hr : f_X9_editionOf X v1 = some r) : Cal LX yX9_editionOf cX9_editionOf 2 (some .int) 0 (fun ad => [.ref (ad (1)), .int v1]) X (fun ad => oI X r) :=
  Cal.of (own := RX9) (fun ad => [(0, .ref (ad (1))), (1, .int v1)]) (by decide) rfl (fun _ => Nat.le_of_ble_eq_true rfl) (fun _ => rfl) (fun κ K F => jf_X9_editionOf K X v1 F hr)
theorem jf_X9_isLocked {κ : JK} (K : jOk 2 cX9_isLocked RX9 (some .boolean) 0 κ) (X : JX) (v1 : Int32) {r : Int32} (F : jFin LX false (oI X r) κ) (hr : f_X9_isLocked X v1 = some r) : J LX 2 κ X 0 [(0, .ref (jad κ (1))), (1, .int v1)] [] := by
  unfold f_X9_isLocked at hr
  refine j_iload_n K dX9_isLocked_0 1 rfl ?_
  refine j_if_lt K dX9_isLocked_1 (tgt := 23) (by decide) hr (fun hr => ?_) (fun hr => ?_)
  · refine j_iconst K dX9_isLocked_23 (v := 0) rfl ?_
    exact j_zreturn K dX9_isLocked_24 rfl rfl F hr rfl
  · refine j_iload_n K dX9_isLocked_4 1 rfl ?_
    refine j_bipush K dX9_isLocked_5 (v := 60) rfl ?_
    refine j_icmp_ge K dX9_isLocked_7 (tgt := 23) (by decide) hr (fun hr => ?_) (fun hr => ?_)
    · refine j_iconst K dX9_isLocked_23 (v := 0) rfl ?_
      exact j_zreturn K dX9_isLocked_24 rfl rfl F hr rfl
    · refine j_aload_n K dX9_isLocked_10 0 rfl ?_
      refine j_get K (v := .ref (jad κ (6))) fl_X9_26 rfl (Nat.le_of_ble_eq_true rfl) (by decide) rfl dX9_isLocked_11 ?_
      refine j_iload_n K dX9_isLocked_14 1 rfl ?_
      refine j_baload K (z := 60) rfl (Nat.le_of_ble_eq_true rfl) dX9_isLocked_15 hr (fun hr => ?_)
      refine j_if_eq K dX9_isLocked_16 (tgt := 23) (by decide) hr (fun hr => ?_) (fun hr => ?_)
      · refine j_iconst K dX9_isLocked_23 (v := 0) rfl ?_
        exact j_zreturn K dX9_isLocked_24 rfl rfl F hr rfl
      · refine j_iconst K dX9_isLocked_19 (v := 1) rfl ?_
        refine j_goto K dX9_isLocked_20 (tgt := 24) (by decide) ?_
        exact j_zreturn K dX9_isLocked_24 rfl rfl F hr rfl
theorem c_X9_isLocked (X : JX) (v1 : Int32) {r : Int32} (hr : f_X9_isLocked X v1 = some r) : Cal LX yX9_isLocked cX9_isLocked 2 (some .boolean) 0 (fun ad => [.ref (ad (1)), .int v1]) X (fun ad => oI X r) :=
  Cal.of (own := RX9) (fun ad => [(0, .ref (ad (1))), (1, .int v1)]) (by decide) rfl (fun _ => Nat.le_of_ble_eq_true rfl) (fun _ => rfl) (fun κ K F => jf_X9_isLocked K X v1 F hr)
theorem jf_X9_lengthOf {κ : JK} (K : jOk 2 cX9_lengthOf RX9 (some .int) 0 κ) (X : JX) (v1 : Int32) {r : Int32} (F : jFin LX false (oI X r) κ) (hr : f_X9_lengthOf X v1 = some r) : J LX 2 κ X 0 [(0, .ref (jad κ (1))), (1, .int v1)] [] := by
  unfold f_X9_lengthOf at hr
  refine j_iload_n K dX9_lengthOf_0 1 rfl ?_
  refine j_if_lt K dX9_lengthOf_1 (tgt := 19) (by decide) hr (fun hr => ?_) (fun hr => ?_)
  · refine j_iconst K dX9_lengthOf_19 (v := 0) rfl ?_
    exact j_ireturn K dX9_lengthOf_20 rfl F hr rfl
  · refine j_iload_n K dX9_lengthOf_4 1 rfl ?_
    refine j_bipush K dX9_lengthOf_5 (v := 60) rfl ?_
    refine j_icmp_ge K dX9_lengthOf_7 (tgt := 19) (by decide) hr (fun hr => ?_) (fun hr => ?_)
    · refine j_iconst K dX9_lengthOf_19 (v := 0) rfl ?_
      exact j_ireturn K dX9_lengthOf_20 rfl F hr rfl
    · refine j_aload_n K dX9_lengthOf_10 0 rfl ?_
      refine j_get K (v := .ref (jad κ (9))) fl_X9_35 rfl (Nat.le_of_ble_eq_true rfl) (by decide) rfl dX9_lengthOf_11 ?_
      refine j_iload_n K dX9_lengthOf_14 1 rfl ?_
      refine j_iaload K (z := 60) rfl (Nat.le_of_ble_eq_true rfl) dX9_lengthOf_15 hr (fun hr => ?_)
      refine j_goto K dX9_lengthOf_16 (tgt := 20) (by decide) ?_
      exact j_ireturn K dX9_lengthOf_20 rfl F hr rfl
theorem c_X9_lengthOf (X : JX) (v1 : Int32) {r : Int32} (hr : f_X9_lengthOf X v1 = some r) : Cal LX yX9_lengthOf cX9_lengthOf 2 (some .int) 0 (fun ad => [.ref (ad (1)), .int v1]) X (fun ad => oI X r) :=
  Cal.of (own := RX9) (fun ad => [(0, .ref (ad (1))), (1, .int v1)]) (by decide) rfl (fun _ => Nat.le_of_ble_eq_true rfl) (fun _ => rfl) (fun κ K F => jf_X9_lengthOf K X v1 F hr)
theorem jf_X9_textOf {κ : JK} (K : jOk 2 cX9_textOf RX9 (some (.array .int)) 0 κ) (X : JX) (v1 : Int32) {r : Nat} (F : jFin LX false (oR (jad κ) X r) κ) (hr : f_X9_textOf X v1 = some r) : J LX 2 κ X 0 [(0, .ref (jad κ (1))), (1, .int v1)] [] := by
  unfold f_X9_textOf at hr
  refine j_aload_n K dX9_textOf_0 0 rfl ?_
  refine j_get K (v := .ref (jad κ (10))) fl_X9_40 rfl (Nat.le_of_ble_eq_true rfl) (by decide) rfl dX9_textOf_1 ?_
  refine j_iload_n K dX9_textOf_4 1 rfl ?_
  refine j_if_lt K dX9_textOf_5 (tgt := 18) (by decide) hr (fun hr => ?_) (fun hr => ?_)
  · refine j_iconst K dX9_textOf_18 (v := 0) rfl ?_
    refine j_aaload4V K (b := 56) (z := 60) rfl (Nat.le_of_ble_eq_true rfl) dX9_textOf_19 hr (fun q1 hq1 hr => ?_)
    exact j_areturn K dX9_textOf_20 rfl (Or.inr ⟨_, rfl⟩) F hr rfl
  · refine j_iload_n K dX9_textOf_8 1 rfl ?_
    refine j_bipush K dX9_textOf_9 (v := 60) rfl ?_
    refine j_icmp_ge K dX9_textOf_11 (tgt := 18) (by decide) hr (fun hr => ?_) (fun hr => ?_)
    · refine j_iconst K dX9_textOf_18 (v := 0) rfl ?_
      refine j_aaload4V K (b := 56) (z := 60) rfl (Nat.le_of_ble_eq_true rfl) dX9_textOf_19 hr (fun q2 hq2 hr => ?_)
      exact j_areturn K dX9_textOf_20 rfl (Or.inr ⟨_, rfl⟩) F hr rfl
    · refine j_iload_n K dX9_textOf_14 1 rfl ?_
      refine j_goto K dX9_textOf_15 (tgt := 19) (by decide) ?_
      refine j_aaload4V K (b := 56) (z := 60) rfl (Nat.le_of_ble_eq_true rfl) dX9_textOf_19 hr (fun q3 hq3 hr => ?_)
      exact j_areturn K dX9_textOf_20 rfl (Or.inr ⟨_, rfl⟩) F hr rfl
theorem c_X9_textOf (X : JX) (v1 : Int32) {r : Nat} (hr : f_X9_textOf X v1 = some r) : Cal LX yX9_textOf cX9_textOf 2 (some (.array .int)) 0 (fun ad => [.ref (ad (1)), .int v1]) X (fun ad => oR ad X r) :=
  Cal.of (own := RX9) (fun ad => [(0, .ref (ad (1))), (1, .int v1)]) (by decide) rfl (fun _ => Nat.le_of_ble_eq_true rfl) (fun _ => rfl) (fun κ K F => jf_X9_textOf K X v1 F hr)
theorem jl_X9_isBelow_9 {κ : JK} (K : jOk 5 cX9_isBelow RX9 (some .boolean) 1 κ) (X : JX) (v2 : Int32) {r : Int32} (F : jFin LX false (oI X r) κ) : ∀ (v3 : Int32) (v4 : Int32), l_X9_isBelow_9 X v2 v3 v4 = some r → J LX 5 κ X 9 [(0, .ref (jad κ (1))), (2, .int v2), (3, .int v3), (4, .int v4)] [] := by
  refine j_loop2 (P := fun v3 v4 => J LX 5 κ X 9 [(0, .ref (jad κ (1))), (2, .int v2), (3, .int v3), (4, .int v4)] []) (fun rec9 hrec9 v3 v4 hr => ?_) 1000
  unfold lb_X9_isBelow_9 at hr
  refine j_iload K dX9_isBelow_9 3 rfl ?_
  refine j_bipush K dX9_isBelow_11 (v := 60) rfl ?_
  refine j_icmp_ge K dX9_isBelow_13 (tgt := 40) (by decide) hr (fun hr => ?_) (fun hr => ?_)
  · refine j_iconst K dX9_isBelow_40 (v := 0) rfl ?_
    exact j_zreturn K dX9_isBelow_41 rfl rfl F hr rfl
  · refine j_iload_n K dX9_isBelow_16 2 rfl ?_
    refine j_iconst K dX9_isBelow_17 (v := -1) rfl ?_
    refine j_icmp_eq K dX9_isBelow_18 (tgt := 40) (by decide) hr (fun hr => ?_) (fun hr => ?_)
    · refine j_iconst K dX9_isBelow_40 (v := 0) rfl ?_
      exact j_zreturn K dX9_isBelow_41 rfl rfl F hr rfl
    · refine j_iload_n K dX9_isBelow_21 2 rfl ?_
      refine j_iload_n K dX9_isBelow_22 1 rfl ?_
      refine j_icmp_ne K dX9_isBelow_23 (tgt := 28) (by decide) hr (fun hr => ?_) (fun hr => ?_)
      · refine j_aload_n K dX9_isBelow_28 0 rfl ?_
        refine j_iload_n K dX9_isBelow_29 2 rfl ?_
        refine j_vI1 K (ci := 9) hr (fun v h => c_X9_parentOf X v3 h) ml_X9_47 ⟨_, rfl, rfl⟩ rfl (Nat.le_of_ble_eq_true rfl) (by decide) rfl (by decide) (by decide) (Nat.le_of_ble_eq_true rfl) dX9_isBelow_30 (fun t2 h hr => ?_)
        refine j_istore_n K dX9_isBelow_33 (by decide) ?_
        refine j_iincV K dX9_isBelow_34 (v := 1) 3 rfl rfl (by decide) hr (fun t3 hr => ?_)
        refine j_goto K dX9_isBelow_37 (tgt := 9) (by decide) ?_
        exact j_sub [2, 3, 1, 0] rfl (hrec9 _ _ hr)
      · refine j_iconst K dX9_isBelow_26 (v := 1) rfl ?_
        exact j_zreturn K dX9_isBelow_27 rfl rfl F hr rfl
theorem jf_X9_isBelow {κ : JK} (K : jOk 5 cX9_isBelow RX9 (some .boolean) 1 κ) (X : JX) (v1 : Int32) (v2 : Int32) {r : Int32} (F : jFin LX false (oI X r) κ) (hr : f_X9_isBelow X v1 v2 = some r) : J LX 5 κ X 0 [(0, .ref (jad κ (1))), (1, .int v1), (2, .int v2)] [] := by
  unfold f_X9_isBelow at hr
  refine j_aload_n K dX9_isBelow_0 0 rfl ?_
  refine j_iload_n K dX9_isBelow_1 1 rfl ?_
  refine j_vI1 K (ci := 9) hr (fun v h => c_X9_parentOf X v1 h) ml_X9_47 ⟨_, rfl, rfl⟩ rfl (Nat.le_of_ble_eq_true rfl) (by decide) rfl (by decide) (by decide) (Nat.le_of_ble_eq_true rfl) dX9_isBelow_2 (fun t1 h hr => ?_)
  refine j_istore_n K dX9_isBelow_5 (by decide) ?_
  refine j_iconst K dX9_isBelow_6 (v := 0) rfl ?_
  refine j_istore K dX9_isBelow_7 (by decide) ?_
  exact j_sub [2, 4, 1, 0] rfl (jl_X9_isBelow_9 K _ _ F _ _ hr)
theorem c_X9_isBelow (X : JX) (v1 : Int32) (v2 : Int32) {r : Int32} (hr : f_X9_isBelow X v1 v2 = some r) : Cal LX yX9_isBelow cX9_isBelow 5 (some .boolean) 1 (fun ad => [.ref (ad (1)), .int v1, .int v2]) X (fun ad => oI X r) :=
  Cal.of (own := RX9) (fun ad => [(0, .ref (ad (1))), (1, .int v1), (2, .int v2)]) (by decide) rfl (fun _ => Nat.le_of_ble_eq_true rfl) (fun _ => rfl) (fun κ K F => jf_X9_isBelow K X v1 v2 F hr)
theorem jf_X9_isFolder {κ : JK} (K : jOk 2 cX9_isFolder RX9 (some .boolean) 0 κ) (X : JX) (v1 : Int32) {r : Int32} (F : jFin LX false (oI X r) κ) (hr : f_X9_isFolder X v1 = some r) : J LX 2 κ X 0 [(0, .ref (jad κ (1))), (1, .int v1)] [] := by
  unfold f_X9_isFolder at hr
  refine j_iload_n K dX9_isFolder_0 1 rfl ?_
  refine j_if_lt K dX9_isFolder_1 (tgt := 32) (by decide) hr (fun hr => ?_) (fun hr => ?_)
  · refine j_iconst K dX9_isFolder_32 (v := 0) rfl ?_
    exact j_zreturn K dX9_isFolder_33 rfl rfl F hr rfl
  · refine j_iload_n K dX9_isFolder_4 1 rfl ?_
    refine j_bipush K dX9_isFolder_5 (v := 60) rfl ?_
    refine j_icmp_ge K dX9_isFolder_7 (tgt := 32) (by decide) hr (fun hr => ?_) (fun hr => ?_)
    · refine j_iconst K dX9_isFolder_32 (v := 0) rfl ?_
      exact j_zreturn K dX9_isFolder_33 rfl rfl F hr rfl
    · refine j_aload_n K dX9_isFolder_10 0 rfl ?_
      refine j_get K (v := .ref (jad κ (5))) fl_X9_23 rfl (Nat.le_of_ble_eq_true rfl) (by decide) rfl dX9_isFolder_11 ?_
      refine j_iload_n K dX9_isFolder_14 1 rfl ?_
      refine j_baload K (z := 60) rfl (Nat.le_of_ble_eq_true rfl) dX9_isFolder_15 hr (fun hr => ?_)
      refine j_if_eq K dX9_isFolder_16 (tgt := 32) (by decide) hr (fun hr => ?_) (fun hr => ?_)
      · refine j_iconst K dX9_isFolder_32 (v := 0) rfl ?_
        exact j_zreturn K dX9_isFolder_33 rfl rfl F hr rfl
      · refine j_aload_n K dX9_isFolder_19 0 rfl ?_
        refine j_get K (v := .ref (jad κ (4))) fl_X9_19 rfl (Nat.le_of_ble_eq_true rfl) (by decide) rfl dX9_isFolder_20 ?_
        refine j_iload_n K dX9_isFolder_23 1 rfl ?_
        refine j_baload K (z := 60) rfl (Nat.le_of_ble_eq_true rfl) dX9_isFolder_24 hr (fun hr => ?_)
        refine j_if_eq K dX9_isFolder_25 (tgt := 32) (by decide) hr (fun hr => ?_) (fun hr => ?_)
        · refine j_iconst K dX9_isFolder_32 (v := 0) rfl ?_
          exact j_zreturn K dX9_isFolder_33 rfl rfl F hr rfl
        · refine j_iconst K dX9_isFolder_28 (v := 1) rfl ?_
          refine j_goto K dX9_isFolder_29 (tgt := 33) (by decide) ?_
          exact j_zreturn K dX9_isFolder_33 rfl rfl F hr rfl
theorem c_X9_isFolder (X : JX) (v1 : Int32) {r : Int32} (hr : f_X9_isFolder X v1 = some r) : Cal LX yX9_isFolder cX9_isFolder 2 (some .boolean) 0 (fun ad => [.ref (ad (1)), .int v1]) X (fun ad => oI X r) :=
  Cal.of (own := RX9) (fun ad => [(0, .ref (ad (1))), (1, .int v1)]) (by decide) rfl (fun _ => Nat.le_of_ble_eq_true rfl) (fun _ => rfl) (fun κ K F => jf_X9_isFolder K X v1 F hr)
theorem jf_X9_peopleOf {κ : JK} (K : jOk 2 cX9_peopleOf RX9 (some .int) 0 κ) (X : JX) (v1 : Int32) {r : Int32} (F : jFin LX false (oI X r) κ) (hr : f_X9_peopleOf X v1 = some r) : J LX 2 κ X 0 [(0, .ref (jad κ (1))), (1, .int v1)] [] := by
  unfold f_X9_peopleOf at hr
  refine j_iload_n K dX9_peopleOf_0 1 rfl ?_
  refine j_if_lt K dX9_peopleOf_1 (tgt := 19) (by decide) hr (fun hr => ?_) (fun hr => ?_)
  · refine j_iconst K dX9_peopleOf_19 (v := 0) rfl ?_
    exact j_ireturn K dX9_peopleOf_20 rfl F hr rfl
  · refine j_iload_n K dX9_peopleOf_4 1 rfl ?_
    refine j_bipush K dX9_peopleOf_5 (v := 60) rfl ?_
    refine j_icmp_ge K dX9_peopleOf_7 (tgt := 19) (by decide) hr (fun hr => ?_) (fun hr => ?_)
    · refine j_iconst K dX9_peopleOf_19 (v := 0) rfl ?_
      exact j_ireturn K dX9_peopleOf_20 rfl F hr rfl
    · refine j_aload_n K dX9_peopleOf_10 0 rfl ?_
      refine j_get K (v := .ref (jad κ (7))) fl_X9_29 rfl (Nat.le_of_ble_eq_true rfl) (by decide) rfl dX9_peopleOf_11 ?_
      refine j_iload_n K dX9_peopleOf_14 1 rfl ?_
      refine j_iaload K (z := 60) rfl (Nat.le_of_ble_eq_true rfl) dX9_peopleOf_15 hr (fun hr => ?_)
      refine j_goto K dX9_peopleOf_16 (tgt := 20) (by decide) ?_
      exact j_ireturn K dX9_peopleOf_20 rfl F hr rfl
theorem c_X9_peopleOf (X : JX) (v1 : Int32) {r : Int32} (hr : f_X9_peopleOf X v1 = some r) : Cal LX yX9_peopleOf cX9_peopleOf 2 (some .int) 0 (fun ad => [.ref (ad (1)), .int v1]) X (fun ad => oI X r) :=
  Cal.of (own := RX9) (fun ad => [(0, .ref (ad (1))), (1, .int v1)]) (by decide) rfl (fun _ => Nat.le_of_ble_eq_true rfl) (fun _ => rfl) (fun κ K F => jf_X9_peopleOf K X v1 F hr)
theorem jl_X9_isOpenTo_5 {κ : JK} (K : jOk 5 cX9_isOpenTo RX9 (some .boolean) 1 κ) (X : JX) (v1 : Int32) {r : Int32} (F : jFin LX false (oI X r) κ) : ∀ (v3 : Int32) (v4 : Int32), l_X9_isOpenTo_5 X v1 v3 v4 = some r → J LX 5 κ X 5 [(0, .ref (jad κ (1))), (1, .int v1), (3, .int v3), (4, .int v4)] [] := by
  refine j_loop2 (P := fun v3 v4 => J LX 5 κ X 5 [(0, .ref (jad κ (1))), (1, .int v1), (3, .int v3), (4, .int v4)] []) (fun rec5 hrec5 v3 v4 hr => ?_) 1000
  unfold lb_X9_isOpenTo_5 at hr
  refine j_iload K dX9_isOpenTo_5 3 rfl ?_
  refine j_bipush K dX9_isOpenTo_7 (v := 60) rfl ?_
  refine j_icmp_ge K dX9_isOpenTo_9 (tgt := 43) (by decide) hr (fun hr => ?_) (fun hr => ?_)
  · refine j_iconst K dX9_isOpenTo_43 (v := 1) rfl ?_
    exact j_zreturn K dX9_isOpenTo_44 rfl rfl F hr rfl
  · refine j_iload_n K dX9_isOpenTo_12 2 rfl ?_
    refine j_iconst K dX9_isOpenTo_13 (v := -1) rfl ?_
    refine j_icmp_eq K dX9_isOpenTo_14 (tgt := 43) (by decide) hr (fun hr => ?_) (fun hr => ?_)
    · refine j_iconst K dX9_isOpenTo_43 (v := 1) rfl ?_
      exact j_zreturn K dX9_isOpenTo_44 rfl rfl F hr rfl
    · refine j_aload_n K dX9_isOpenTo_17 0 rfl ?_
      refine j_iload_n K dX9_isOpenTo_18 2 rfl ?_
      refine j_vI1 K (ci := 9) hr (fun v h => c_X9_peopleOf X v3 h) ml_X9_51 ⟨_, rfl, rfl⟩ rfl (Nat.le_of_ble_eq_true rfl) (by decide) rfl (by decide) (by decide) (Nat.le_of_ble_eq_true rfl) dX9_isOpenTo_19 (fun t1 h hr => ?_)
      refine j_iload_n K dX9_isOpenTo_22 1 rfl ?_
      refine j_ishr K dX9_isOpenTo_23 ?_
      refine j_iconst K dX9_isOpenTo_24 (v := 1) rfl ?_
      refine j_iand K dX9_isOpenTo_25 ?_
      refine j_if_ne K dX9_isOpenTo_26 (tgt := 31) (by decide) hr (fun hr => ?_) (fun hr => ?_)
      · refine j_aload_n K dX9_isOpenTo_31 0 rfl ?_
        refine j_iload_n K dX9_isOpenTo_32 2 rfl ?_
        refine j_vI1 K (ci := 9) hr (fun v h => c_X9_parentOf X v3 h) ml_X9_47 ⟨_, rfl, rfl⟩ rfl (Nat.le_of_ble_eq_true rfl) (by decide) rfl (by decide) (by decide) (Nat.le_of_ble_eq_true rfl) dX9_isOpenTo_33 (fun t2 h hr => ?_)
        refine j_istore_n K dX9_isOpenTo_36 (by decide) ?_
        refine j_iincV K dX9_isOpenTo_37 (v := 1) 3 rfl rfl (by decide) hr (fun t3 hr => ?_)
        refine j_goto K dX9_isOpenTo_40 (tgt := 5) (by decide) ?_
        exact j_sub [2, 3, 1, 0] rfl (hrec5 _ _ hr)
      · refine j_iconst K dX9_isOpenTo_29 (v := 0) rfl ?_
        exact j_zreturn K dX9_isOpenTo_30 rfl rfl F hr rfl
theorem jf_X9_isOpenTo {κ : JK} (K : jOk 5 cX9_isOpenTo RX9 (some .boolean) 1 κ) (X : JX) (v1 : Int32) (v2 : Int32) {r : Int32} (F : jFin LX false (oI X r) κ) (hr : f_X9_isOpenTo X v1 v2 = some r) : J LX 5 κ X 0 [(0, .ref (jad κ (1))), (1, .int v1), (2, .int v2)] [] := by
  unfold f_X9_isOpenTo at hr
  refine j_iload_n K dX9_isOpenTo_0 2 rfl ?_
  refine j_istore_n K dX9_isOpenTo_1 (by decide) ?_
  refine j_iconst K dX9_isOpenTo_2 (v := 0) rfl ?_
  refine j_istore K dX9_isOpenTo_3 (by decide) ?_
  exact j_sub [2, 3, 1, 0] rfl (jl_X9_isOpenTo_5 K _ _ F _ _ hr)
theorem c_X9_isOpenTo (X : JX) (v1 : Int32) (v2 : Int32) {r : Int32} (hr : f_X9_isOpenTo X v1 v2 = some r) : Cal LX yX9_isOpenTo cX9_isOpenTo 5 (some .boolean) 1 (fun ad => [.ref (ad (1)), .int v1, .int v2]) X (fun ad => oI X r) :=
  Cal.of (own := RX9) (fun ad => [(0, .ref (ad (1))), (1, .int v1), (2, .int v2)]) (by decide) rfl (fun _ => Nat.le_of_ble_eq_true rfl) (fun _ => rfl) (fun κ K F => jf_X9_isOpenTo K X v1 v2 F hr)
theorem jf_X9_isThere {κ : JK} (K : jOk 2 cX9_isThere RX9 (some .boolean) 0 κ) (X : JX) (v1 : Int32) {r : Int32} (F : jFin LX false (oI X r) κ) (hr : f_X9_isThere X v1 = some r) : J LX 2 κ X 0 [(0, .ref (jad κ (1))), (1, .int v1)] [] := by
  unfold f_X9_isThere at hr
  refine j_iload_n K dX9_isThere_0 1 rfl ?_
  refine j_if_lt K dX9_isThere_1 (tgt := 23) (by decide) hr (fun hr => ?_) (fun hr => ?_)
  · refine j_iconst K dX9_isThere_23 (v := 0) rfl ?_
    exact j_zreturn K dX9_isThere_24 rfl rfl F hr rfl
  · refine j_iload_n K dX9_isThere_4 1 rfl ?_
    refine j_bipush K dX9_isThere_5 (v := 60) rfl ?_
    refine j_icmp_ge K dX9_isThere_7 (tgt := 23) (by decide) hr (fun hr => ?_) (fun hr => ?_)
    · refine j_iconst K dX9_isThere_23 (v := 0) rfl ?_
      exact j_zreturn K dX9_isThere_24 rfl rfl F hr rfl
    · refine j_aload_n K dX9_isThere_10 0 rfl ?_
      refine j_get K (v := .ref (jad κ (5))) fl_X9_23 rfl (Nat.le_of_ble_eq_true rfl) (by decide) rfl dX9_isThere_11 ?_
      refine j_iload_n K dX9_isThere_14 1 rfl ?_
      refine j_baload K (z := 60) rfl (Nat.le_of_ble_eq_true rfl) dX9_isThere_15 hr (fun hr => ?_)
      refine j_if_eq K dX9_isThere_16 (tgt := 23) (by decide) hr (fun hr => ?_) (fun hr => ?_)
      · refine j_iconst K dX9_isThere_23 (v := 0) rfl ?_
        exact j_zreturn K dX9_isThere_24 rfl rfl F hr rfl
      · refine j_iconst K dX9_isThere_19 (v := 1) rfl ?_
        refine j_goto K dX9_isThere_20 (tgt := 24) (by decide) ?_
        exact j_zreturn K dX9_isThere_24 rfl rfl F hr rfl
theorem c_X9_isThere (X : JX) (v1 : Int32) {r : Int32} (hr : f_X9_isThere X v1 = some r) : Cal LX yX9_isThere cX9_isThere 2 (some .boolean) 0 (fun ad => [.ref (ad (1)), .int v1]) X (fun ad => oI X r) :=
  Cal.of (own := RX9) (fun ad => [(0, .ref (ad (1))), (1, .int v1)]) (by decide) rfl (fun _ => Nat.le_of_ble_eq_true rfl) (fun _ => rfl) (fun κ K F => jf_X9_isThere K X v1 F hr)
theorem jb_X9_add_80 {κ : JK} (K : jOk 5 cX9_add RX9 (some .int) 0 κ) (X : JX) (v4 : Int32) (s0 : Int32) (s1 : Int32) {r : (Int32 × JX)} (F : jFin LX false (oM r) κ) (hr : b_X9_add_80 X v4 s0 s1 = some r) : J LX 5 κ X 80 [(0, .ref (jad κ (1))), (4, .int v4)] [.int s0, .int s1, .ref (jad κ (8))] := by
  unfold b_X9_add_80 at hr
  refine j_iastoreV K (z := 60) rfl (Nat.le_of_ble_eq_true rfl) dX9_add_80 hr (fun X7 hr => ?_)
  refine j_aload_n K dX9_add_81 0 rfl ?_
  refine j_dup K dX9_add_82 rfl ?_
  refine j_get K (v := .int (X7 (1) 9)) fl_X9_43 rfl (Nat.le_of_ble_eq_true rfl) (by decide) rfl dX9_add_83 ?_
  refine j_iconst K dX9_add_86 (v := 1) rfl ?_
  refine j_iadd K dX9_add_87 ?_
  refine j_putiV K fp_X9_43 rfl (Nat.le_of_ble_eq_true rfl) (by decide) (fun _ => Nat.le_of_ble_eq_true rfl) (fun _ => rfl) dX9_add_88 hr (fun X8 hr => ?_)
  refine j_iload K dX9_add_91 1 rfl ?_
  exact j_ireturn K dX9_add_93 rfl F hr rfl
theorem jf_X9_add {κ : JK} (K : jOk 5 cX9_add RX9 (some .int) 0 κ) (X : JX) (v1 : Int32) (v2 : Int32) (v3 : Int32) {r : (Int32 × JX)} (F : jFin LX false (oM r) κ) (hr : f_X9_add X v1 v2 v3 = some r) : J LX 5 κ X 0 [(0, .ref (jad κ (1))), (1, .int v1), (2, .int v2), (3, .int v3)] [] := by
  unfold f_X9_add at hr
  refine j_aload_n K dX9_add_0 0 rfl ?_
  refine j_get K (v := .int (X (1) 9)) fl_X9_43 rfl (Nat.le_of_ble_eq_true rfl) (by decide) rfl dX9_add_1 ?_
  refine j_if_lt K dX9_add_4 (tgt := 16) (by decide) hr (fun hr => ?_) (fun hr => ?_)
  · refine j_iconst K dX9_add_16 (v := -1) rfl ?_
    exact j_ireturn K dX9_add_17 rfl F hr rfl
  · refine j_aload_n K dX9_add_7 0 rfl ?_
    refine j_get K (v := .int (X (1) 9)) fl_X9_43 rfl (Nat.le_of_ble_eq_true rfl) (by decide) rfl dX9_add_8 ?_
    refine j_bipush K dX9_add_11 (v := 60) rfl ?_
    refine j_icmp_lt K dX9_add_13 (tgt := 18) (by decide) hr (fun hr => ?_) (fun hr => ?_)
    · refine j_aload_n K dX9_add_18 0 rfl ?_
      refine j_get K (v := .int (X (1) 9)) fl_X9_43 rfl (Nat.le_of_ble_eq_true rfl) (by decide) rfl dX9_add_19 ?_
      refine j_istoreV K dX9_add_22 (by decide) hr (fun t1 hr => ?_)
      refine j_aload_n K dX9_add_24 1 rfl ?_
      refine j_get K (v := .ref (jad κ (2))) fl_X9_9 rfl (Nat.le_of_ble_eq_true rfl) (by decide) rfl dX9_add_25 ?_
      refine j_iload K dX9_add_28 0 rfl ?_
      refine j_iload_n K dX9_add_30 2 rfl ?_
      refine j_iastoreV K (z := 60) rfl (Nat.le_of_ble_eq_true rfl) dX9_add_31 hr (fun X2 hr => ?_)
      refine j_aload_n K dX9_add_32 1 rfl ?_
      refine j_get K (v := .ref (jad κ (3))) fl_X9_15 rfl (Nat.le_of_ble_eq_true rfl) (by decide) rfl dX9_add_33 ?_
      refine j_iload K dX9_add_36 0 rfl ?_
      refine j_iload_n K dX9_add_38 3 rfl ?_
      refine j_castoreV K (z := 60) rfl (Nat.le_of_ble_eq_true rfl) dX9_add_39 hr (fun X3 hr => ?_)
      refine j_aload_n K dX9_add_40 1 rfl ?_
      refine j_get K (v := .ref (jad κ (4))) fl_X9_19 rfl (Nat.le_of_ble_eq_true rfl) (by decide) rfl dX9_add_41 ?_
      refine j_iload K dX9_add_44 0 rfl ?_
      refine j_iload_n K dX9_add_46 4 rfl ?_
      refine j_bastoreV K (z := 60) rfl (Nat.le_of_ble_eq_true rfl) dX9_add_47 hr (fun X4 hr => ?_)
      refine j_aload_n K dX9_add_48 1 rfl ?_
      refine j_get K (v := .ref (jad κ (5))) fl_X9_23 rfl (Nat.le_of_ble_eq_true rfl) (by decide) rfl dX9_add_49 ?_
      refine j_iload K dX9_add_52 0 rfl ?_
      refine j_iconst K dX9_add_54 (v := 1) rfl ?_
      refine j_bastoreV K (z := 60) rfl (Nat.le_of_ble_eq_true rfl) dX9_add_55 hr (fun X5 hr => ?_)
      refine j_aload_n K dX9_add_56 1 rfl ?_
      refine j_get K (v := .ref (jad κ (7))) fl_X9_29 rfl (Nat.le_of_ble_eq_true rfl) (by decide) rfl dX9_add_57 ?_
      refine j_iload K dX9_add_60 0 rfl ?_
      refine j_bipush K dX9_add_62 (v := 15) rfl ?_
      refine j_iastoreV K (z := 60) rfl (Nat.le_of_ble_eq_true rfl) dX9_add_64 hr (fun X6 hr => ?_)
      refine j_aload_n K dX9_add_65 1 rfl ?_
      refine j_get K (v := .ref (jad κ (8))) fl_X9_32 rfl (Nat.le_of_ble_eq_true rfl) (by decide) rfl dX9_add_66 ?_
      refine j_iload K dX9_add_69 0 rfl ?_
      refine j_iload_n K dX9_add_71 4 rfl ?_
      refine j_if_eq K dX9_add_72 (tgt := 79) (by decide) hr (fun hr => ?_) (fun hr => ?_)
      · refine j_iconst K dX9_add_79 (v := 1) rfl ?_
        exact j_sub [1, 0] rfl (jb_X9_add_80 K _ _ _ _ F hr)
      · refine j_iconst K dX9_add_75 (v := 0) rfl ?_
        refine j_goto K dX9_add_76 (tgt := 80) (by decide) ?_
        exact j_sub [1, 0] rfl (jb_X9_add_80 K _ _ _ _ F hr)
    · refine j_iconst K dX9_add_16 (v := -1) rfl ?_
      exact j_ireturn K dX9_add_17 rfl F hr rfl
theorem c_X9_add (X : JX) (v1 : Int32) (v2 : Int32) (v3 : Int32) {r : (Int32 × JX)} (hr : f_X9_add X v1 v2 v3 = some r) : Cal LX yX9_add cX9_add 5 (some .int) 0 (fun ad => [.ref (ad (1)), .int v1, .int v2, .int v3]) X (fun ad => oM r) :=
  Cal.of (own := RX9) (fun ad => [(0, .ref (ad (1))), (1, .int v1), (2, .int v2), (3, .int v3)]) (by decide) rfl (fun _ => Nat.le_of_ble_eq_true rfl) (fun _ => rfl) (fun κ K F => jf_X9_add K X v1 v2 v3 F hr)
theorem jf_X9_append {κ : JK} (K : jOk 4 cX9_append RX9 none 1 κ) (X : JX) (v1 : Int32) (v2 : Int32) {r : JX} (F : jFin LX false (oU r) κ) (hr : f_X9_append X v1 v2 = some r) : J LX 4 κ X 0 [(0, .ref (jad κ (1))), (1, .int v1), (2, .int v2)] [] := by
  unfold f_X9_append at hr
  refine j_aload_n K dX9_append_0 0 rfl ?_
  refine j_iload_n K dX9_append_1 1 rfl ?_
  refine j_vI1 K (ci := 9) hr (fun v h => c_X9_lengthOf X v1 h) ml_X9_58 ⟨_, rfl, rfl⟩ rfl (Nat.le_of_ble_eq_true rfl) (by decide) rfl (by decide) (by decide) (Nat.le_of_ble_eq_true rfl) dX9_append_2 (fun t1 h hr => ?_)
  refine j_istore_n K dX9_append_5 (by decide) ?_
  refine j_aload_n K dX9_append_6 1 rfl ?_
  refine j_iload_n K dX9_append_7 2 rfl ?_
  refine j_vI1 K (ci := 9) hr (fun v h => c_X9_isFile X v1 h) ml_X9_61 ⟨_, rfl, rfl⟩ rfl (Nat.le_of_ble_eq_true rfl) (by decide) rfl (by decide) (by decide) (Nat.le_of_ble_eq_true rfl) dX9_append_8 (fun t2 h hr => ?_)
  refine j_if_eq K dX9_append_11 (tgt := 52) (by decide) hr (fun hr => ?_) (fun hr => ?_)
  · exact j_return K dX9_append_52 rfl F hr rfl
  · refine j_iload_n K dX9_append_14 0 rfl ?_
    refine j_if_lt K dX9_append_15 (tgt := 52) (by decide) hr (fun hr => ?_) (fun hr => ?_)
    · exact j_return K dX9_append_52 rfl F hr rfl
    · refine j_iload_n K dX9_append_18 0 rfl ?_
      refine j_bipush K dX9_append_19 (v := 20) rfl ?_
      refine j_icmp_ge K dX9_append_21 (tgt := 52) (by decide) hr (fun hr => ?_) (fun hr => ?_)
      · exact j_return K dX9_append_52 rfl F hr rfl
      · refine j_aload_n K dX9_append_24 1 rfl ?_
        refine j_get K (v := .ref (jad κ (10))) fl_X9_40 rfl (Nat.le_of_ble_eq_true rfl) (by decide) rfl dX9_append_25 ?_
        refine j_iload_n K dX9_append_28 2 rfl ?_
        refine j_aaload4V K (b := 56) (z := 60) rfl (Nat.le_of_ble_eq_true rfl) dX9_append_29 hr (fun q3 hq3 hr => ?_)
        refine j_iload_n K dX9_append_30 0 rfl ?_
        refine j_iload_n K dX9_append_31 3 rfl ?_
        refine j_iastoreV K (z := 20) (i20 hq3) (i20l hq3) dX9_append_32 hr (fun X4 hr => ?_)
        refine j_aload_n K dX9_append_33 1 rfl ?_
        refine j_get K (v := .ref (jad κ (9))) fl_X9_35 rfl (Nat.le_of_ble_eq_true rfl) (by decide) rfl dX9_append_34 ?_
        refine j_iload_n K dX9_append_37 2 rfl ?_
        refine j_iload_n K dX9_append_38 0 rfl ?_
        refine j_iconst K dX9_append_39 (v := 1) rfl ?_
        refine j_iadd K dX9_append_40 ?_
        refine j_iastoreV K (z := 60) rfl (Nat.le_of_ble_eq_true rfl) dX9_append_41 hr (fun X5 hr => ?_)
        refine j_aload_n K dX9_append_42 1 rfl ?_
        refine j_get K (v := .ref (jad κ (8))) fl_X9_32 rfl (Nat.le_of_ble_eq_true rfl) (by decide) rfl dX9_append_43 ?_
        refine j_iload_n K dX9_append_46 2 rfl ?_
        refine j_dup2 K dX9_append_47 rfl rfl ?_
        refine j_iaload K (z := 60) rfl (Nat.le_of_ble_eq_true rfl) dX9_append_48 hr (fun hr => ?_)
        refine j_iconst K dX9_append_49 (v := 1) rfl ?_
        refine j_iadd K dX9_append_50 ?_
        refine j_iastoreV K (z := 60) rfl (Nat.le_of_ble_eq_true rfl) dX9_append_51 hr (fun X6 hr => ?_)
        exact j_return K dX9_append_52 rfl F hr rfl
theorem c_X9_append (X : JX) (v1 : Int32) (v2 : Int32) {r : JX} (hr : f_X9_append X v1 v2 = some r) : Cal LX yX9_append cX9_append 4 none 1 (fun ad => [.ref (ad (1)), .int v1, .int v2]) X (fun ad => oU r) :=
  Cal.of (own := RX9) (fun ad => [(0, .ref (ad (1))), (1, .int v1), (2, .int v2)]) (by decide) rfl (fun _ => Nat.le_of_ble_eq_true rfl) (fun _ => rfl) (fun κ K F => jf_X9_append K X v1 v2 F hr)
theorem jf_X9_clearText {κ : JK} (K : jOk 2 cX9_clearText RX9 none 1 κ) (X : JX) (v1 : Int32) {r : JX} (F : jFin LX false (oU r) κ) (hr : f_X9_clearText X v1 = some r) : J LX 2 κ X 0 [(0, .ref (jad κ (1))), (1, .int v1)] [] := by
  unfold f_X9_clearText at hr
  refine j_aload_n K dX9_clearText_0 0 rfl ?_
  refine j_iload_n K dX9_clearText_1 1 rfl ?_
  refine j_vI1 K (ci := 9) hr (fun v h => c_X9_isFile X v1 h) ml_X9_61 ⟨_, rfl, rfl⟩ rfl (Nat.le_of_ble_eq_true rfl) (by decide) rfl (by decide) (by decide) (Nat.le_of_ble_eq_true rfl) dX9_clearText_2 (fun t1 h hr => ?_)
  refine j_if_eq K dX9_clearText_5 (tgt := 25) (by decide) hr (fun hr => ?_) (fun hr => ?_)
  · exact j_return K dX9_clearText_25 rfl F hr rfl
  · refine j_aload_n K dX9_clearText_8 0 rfl ?_
    refine j_get K (v := .ref (jad κ (9))) fl_X9_35 rfl (Nat.le_of_ble_eq_true rfl) (by decide) rfl dX9_clearText_9 ?_
    refine j_iload_n K dX9_clearText_12 1 rfl ?_
    refine j_iconst K dX9_clearText_13 (v := 0) rfl ?_
    refine j_iastoreV K (z := 60) rfl (Nat.le_of_ble_eq_true rfl) dX9_clearText_14 hr (fun X2 hr => ?_)
    refine j_aload_n K dX9_clearText_15 0 rfl ?_
    refine j_get K (v := .ref (jad κ (8))) fl_X9_32 rfl (Nat.le_of_ble_eq_true rfl) (by decide) rfl dX9_clearText_16 ?_
    refine j_iload_n K dX9_clearText_19 1 rfl ?_
    refine j_dup2 K dX9_clearText_20 rfl rfl ?_
    refine j_iaload K (z := 60) rfl (Nat.le_of_ble_eq_true rfl) dX9_clearText_21 hr (fun hr => ?_)
    refine j_iconst K dX9_clearText_22 (v := 1) rfl ?_
    refine j_iadd K dX9_clearText_23 ?_
    refine j_iastoreV K (z := 60) rfl (Nat.le_of_ble_eq_true rfl) dX9_clearText_24 hr (fun X3 hr => ?_)
    exact j_return K dX9_clearText_25 rfl F hr rfl
theorem c_X9_clearText (X : JX) (v1 : Int32) {r : JX} (hr : f_X9_clearText X v1 = some r) : Cal LX yX9_clearText cX9_clearText 2 none 1 (fun ad => [.ref (ad (1)), .int v1]) X (fun ad => oU r) :=
  Cal.of (own := RX9) (fun ad => [(0, .ref (ad (1))), (1, .int v1)]) (by decide) rfl (fun _ => Nat.le_of_ble_eq_true rfl) (fun _ => rfl) (fun κ K F => jf_X9_clearText K X v1 F hr)
theorem jb_X9_countThere_22 {κ : JK} (K : jOk 3 cX9_countThere RX9 (some .int) 0 κ) (X : JX) (v1 : Int32) (v2 : Int32) {r : Int32} (F : jFin LX false (oI X r) κ) (rec4 : Int32 → Int32 → Option Int32) (hrec4 : ∀ (v1 : Int32) (v2 : Int32), rec4 v1 v2 = some r → J LX 3 κ X 4 [(0, .ref (jad κ (1))), (1, .int v1), (2, .int v2)] []) (hr : b_X9_countThere_22 rec4 X v1 v2 = some r) : J LX 3 κ X 22 [(0, .ref (jad κ (1))), (1, .int v1), (2, .int v2)] [] := by
  unfold b_X9_countThere_22 at hr
  refine j_iincV K dX9_countThere_22 (v := 1) 2 rfl rfl (by decide) hr (fun t2 hr => ?_)
  refine j_goto K dX9_countThere_25 (tgt := 4) (by decide) ?_
  exact j_sub [1, 2, 0] rfl (hrec4 _ _ hr)
theorem jl_X9_countThere_4 {κ : JK} (K : jOk 3 cX9_countThere RX9 (some .int) 0 κ) (X : JX) {r : Int32} (F : jFin LX false (oI X r) κ) : ∀ (v1 : Int32) (v2 : Int32), l_X9_countThere_4 X v1 v2 = some r → J LX 3 κ X 4 [(0, .ref (jad κ (1))), (1, .int v1), (2, .int v2)] [] := by
  refine j_loop2 (P := fun v1 v2 => J LX 3 κ X 4 [(0, .ref (jad κ (1))), (1, .int v1), (2, .int v2)] []) (fun rec4 hrec4 v1 v2 hr => ?_) 1000
  unfold lb_X9_countThere_4 at hr
  refine j_iload_n K dX9_countThere_4 2 rfl ?_
  refine j_bipush K dX9_countThere_5 (v := 60) rfl ?_
  refine j_icmp_ge K dX9_countThere_7 (tgt := 28) (by decide) hr (fun hr => ?_) (fun hr => ?_)
  · refine j_iload_n K dX9_countThere_28 1 rfl ?_
    exact j_ireturn K dX9_countThere_29 rfl F hr rfl
  · refine j_aload_n K dX9_countThere_10 0 rfl ?_
    refine j_get K (v := .ref (jad κ (5))) fl_X9_23 rfl (Nat.le_of_ble_eq_true rfl) (by decide) rfl dX9_countThere_11 ?_
    refine j_iload_n K dX9_countThere_14 2 rfl ?_
    refine j_baload K (z := 60) rfl (Nat.le_of_ble_eq_true rfl) dX9_countThere_15 hr (fun hr => ?_)
    refine j_if_eq K dX9_countThere_16 (tgt := 22) (by decide) hr (fun hr => ?_) (fun hr => ?_)
    · exact j_sub [0, 1, 2] rfl (jb_X9_countThere_22 K _ _ _ F rec4 hrec4 hr)
    · refine j_iincV K dX9_countThere_19 (v := 1) 1 rfl rfl (by decide) hr (fun t1 hr => ?_)
      exact j_sub [1, 0, 2] rfl (jb_X9_countThere_22 K _ _ _ F rec4 hrec4 hr)
theorem jf_X9_countThere {κ : JK} (K : jOk 3 cX9_countThere RX9 (some .int) 0 κ) (X : JX) {r : Int32} (F : jFin LX false (oI X r) κ) (hr : f_X9_countThere X = some r) : J LX 3 κ X 0 [(0, .ref (jad κ (1)))] [] := by
  unfold f_X9_countThere at hr
  refine j_iconst K dX9_countThere_0 (v := 0) rfl ?_
  refine j_istore_n K dX9_countThere_1 (by decide) ?_
  refine j_iconst K dX9_countThere_2 (v := 0) rfl ?_
  refine j_istore_n K dX9_countThere_3 (by decide) ?_
  exact j_sub [2, 1, 0] rfl (jl_X9_countThere_4 K _ F _ _ hr)
theorem c_X9_countThere (X : JX) {r : Int32} (hr : f_X9_countThere X = some r) : Cal LX yX9_countThere cX9_countThere 3 (some .int) 0 (fun ad => [.ref (ad (1))]) X (fun ad => oI X r) :=
  Cal.of (own := RX9) (fun ad => [(0, .ref (ad (1)))]) (by decide) rfl (fun _ => Nat.le_of_ble_eq_true rfl) (fun _ => rfl) (fun κ K F => jf_X9_countThere K X F hr)
theorem jb_X9_findIn_39 {κ : JK} (K : jOk 4 cX9_findIn RX9 (some .int) 0 κ) (X : JX) (v1 : Int32) (v2 : Int32) (v3 : Int32) {r : Int32} (F : jFin LX false (oI X r) κ) (rec2 : Int32 → Option Int32) (hrec2 : ∀ (v3 : Int32), rec2 v3 = some r → J LX 4 κ X 2 [(0, .ref (jad κ (1))), (1, .int v1), (2, .int v2), (3, .int v3)] []) (hr : b_X9_findIn_39 rec2 X v1 v2 v3 = some r) : J LX 4 κ X 39 [(0, .ref (jad κ (1))), (1, .int v1), (2, .int v2), (3, .int v3)] [] := by
  unfold b_X9_findIn_39 at hr
  refine j_iincV K dX9_findIn_39 (v := 1) 3 rfl rfl (by decide) hr (fun t1 hr => ?_)
  refine j_goto K dX9_findIn_42 (tgt := 2) (by decide) ?_
  exact j_sub [1, 2, 3, 0] rfl (hrec2 _ hr)
theorem jl_X9_findIn_2 {κ : JK} (K : jOk 4 cX9_findIn RX9 (some .int) 0 κ) (X : JX) (v1 : Int32) (v2 : Int32) {r : Int32} (F : jFin LX false (oI X r) κ) : ∀ (v3 : Int32), l_X9_findIn_2 X v1 v2 v3 = some r → J LX 4 κ X 2 [(0, .ref (jad κ (1))), (1, .int v1), (2, .int v2), (3, .int v3)] [] := by
  refine j_loop1 (P := fun v3 => J LX 4 κ X 2 [(0, .ref (jad κ (1))), (1, .int v1), (2, .int v2), (3, .int v3)] []) (fun rec2 hrec2 v3 hr => ?_) 1000
  unfold lb_X9_findIn_2 at hr
  refine j_iload_n K dX9_findIn_2 3 rfl ?_
  refine j_bipush K dX9_findIn_3 (v := 60) rfl ?_
  refine j_icmp_ge K dX9_findIn_5 (tgt := 45) (by decide) hr (fun hr => ?_) (fun hr => ?_)
  · refine j_iconst K dX9_findIn_45 (v := -1) rfl ?_
    exact j_ireturn K dX9_findIn_46 rfl F hr rfl
  · refine j_aload_n K dX9_findIn_8 0 rfl ?_
    refine j_get K (v := .ref (jad κ (5))) fl_X9_23 rfl (Nat.le_of_ble_eq_true rfl) (by decide) rfl dX9_findIn_9 ?_
    refine j_iload_n K dX9_findIn_12 3 rfl ?_
    refine j_baload K (z := 60) rfl (Nat.le_of_ble_eq_true rfl) dX9_findIn_13 hr (fun hr => ?_)
    refine j_if_eq K dX9_findIn_14 (tgt := 39) (by decide) hr (fun hr => ?_) (fun hr => ?_)
    · exact j_sub [0, 1, 2, 3] rfl (jb_X9_findIn_39 K _ _ _ _ F rec2 hrec2 hr)
    · refine j_aload_n K dX9_findIn_17 0 rfl ?_
      refine j_get K (v := .ref (jad κ (2))) fl_X9_9 rfl (Nat.le_of_ble_eq_true rfl) (by decide) rfl dX9_findIn_18 ?_
      refine j_iload_n K dX9_findIn_21 3 rfl ?_
      refine j_iaload K (z := 60) rfl (Nat.le_of_ble_eq_true rfl) dX9_findIn_22 hr (fun hr => ?_)
      refine j_iload_n K dX9_findIn_23 1 rfl ?_
      refine j_icmp_ne K dX9_findIn_24 (tgt := 39) (by decide) hr (fun hr => ?_) (fun hr => ?_)
      · exact j_sub [0, 1, 2, 3] rfl (jb_X9_findIn_39 K _ _ _ _ F rec2 hrec2 hr)
      · refine j_aload_n K dX9_findIn_27 0 rfl ?_
        refine j_get K (v := .ref (jad κ (3))) fl_X9_15 rfl (Nat.le_of_ble_eq_true rfl) (by decide) rfl dX9_findIn_28 ?_
        refine j_iload_n K dX9_findIn_31 3 rfl ?_
        refine j_caload K (z := 60) rfl (Nat.le_of_ble_eq_true rfl) dX9_findIn_32 hr (fun hr => ?_)
        refine j_iload_n K dX9_findIn_33 2 rfl ?_
        refine j_icmp_ne K dX9_findIn_34 (tgt := 39) (by decide) hr (fun hr => ?_) (fun hr => ?_)
        · exact j_sub [0, 1, 2, 3] rfl (jb_X9_findIn_39 K _ _ _ _ F rec2 hrec2 hr)
        · refine j_iload_n K dX9_findIn_37 3 rfl ?_
          exact j_ireturn K dX9_findIn_38 rfl F hr rfl
theorem jf_X9_findIn {κ : JK} (K : jOk 4 cX9_findIn RX9 (some .int) 0 κ) (X : JX) (v1 : Int32) (v2 : Int32) {r : Int32} (F : jFin LX false (oI X r) κ) (hr : f_X9_findIn X v1 v2 = some r) : J LX 4 κ X 0 [(0, .ref (jad κ (1))), (1, .int v1), (2, .int v2)] [] := by
  unfold f_X9_findIn at hr
  refine j_iconst K dX9_findIn_0 (v := 0) rfl ?_
  refine j_istore_n K dX9_findIn_1 (by decide) ?_
  exact j_sub [1, 2, 3, 0] rfl (jl_X9_findIn_2 K _ _ _ F _ hr)
theorem c_X9_findIn (X : JX) (v1 : Int32) (v2 : Int32) {r : Int32} (hr : f_X9_findIn X v1 v2 = some r) : Cal LX yX9_findIn cX9_findIn 4 (some .int) 0 (fun ad => [.ref (ad (1)), .int v1, .int v2]) X (fun ad => oI X r) :=
  Cal.of (own := RX9) (fun ad => [(0, .ref (ad (1))), (1, .int v1), (2, .int v2)]) (by decide) rfl (fun _ => Nat.le_of_ble_eq_true rfl) (fun _ => rfl) (fun κ K F => jf_X9_findIn K X v1 v2 F hr)
theorem jf_X9_isFull {κ : JK} (K : jOk 1 cX9_isFull RX9 (some .boolean) 0 κ) (X : JX) {r : Int32} (F : jFin LX false (oI X r) κ) (hr : f_X9_isFull X = some r) : J LX 1 κ X 0 [(0, .ref (jad κ (1)))] [] := by
  unfold f_X9_isFull at hr
  refine j_aload_n K dX9_isFull_0 0 rfl ?_
  refine j_get K (v := .int (X (1) 9)) fl_X9_43 rfl (Nat.le_of_ble_eq_true rfl) (by decide) rfl dX9_isFull_1 ?_
  refine j_bipush K dX9_isFull_4 (v := 60) rfl ?_
  refine j_icmp_lt K dX9_isFull_6 (tgt := 13) (by decide) hr (fun hr => ?_) (fun hr => ?_)
  · refine j_iconst K dX9_isFull_13 (v := 0) rfl ?_
    exact j_zreturn K dX9_isFull_14 rfl rfl F hr rfl
  · refine j_iconst K dX9_isFull_9 (v := 1) rfl ?_
    refine j_goto K dX9_isFull_10 (tgt := 14) (by decide) ?_
    exact j_zreturn K dX9_isFull_14 rfl rfl F hr rfl
theorem c_X9_isFull (X : JX) {r : Int32} (hr : f_X9_isFull X = some r) : Cal LX yX9_isFull cX9_isFull 1 (some .boolean) 0 (fun ad => [.ref (ad (1))]) X (fun ad => oI X r) :=
  Cal.of (own := RX9) (fun ad => [(0, .ref (ad (1)))]) (by decide) rfl (fun _ => Nat.le_of_ble_eq_true rfl) (fun _ => rfl) (fun κ K F => jf_X9_isFull K X F hr)
theorem jf_X9_put {κ : JK} (K : jOk 4 cX9_put RX9 none 1 κ) (X : JX) (v1 : Int32) (v2 : Int32) (v3 : Int32) {r : JX} (F : jFin LX false (oU r) κ) (hr : f_X9_put X v1 v2 v3 = some r) : J LX 4 κ X 0 [(0, .ref (jad κ (1))), (1, .int v1), (2, .int v2), (3, .int v3)] [] := by
  unfold f_X9_put at hr
  refine j_aload_n K dX9_put_0 0 rfl ?_
  refine j_iload_n K dX9_put_1 1 rfl ?_
  refine j_vI1 K (ci := 9) hr (fun v h => c_X9_isThere X v1 h) ml_X9_54 ⟨_, rfl, rfl⟩ rfl (Nat.le_of_ble_eq_true rfl) (by decide) rfl (by decide) (by decide) (Nat.le_of_ble_eq_true rfl) dX9_put_2 (fun t1 h hr => ?_)
  refine j_if_eq K dX9_put_5 (tgt := 22) (by decide) hr (fun hr => ?_) (fun hr => ?_)
  · exact j_return K dX9_put_22 rfl F hr rfl
  · refine j_aload_n K dX9_put_8 0 rfl ?_
    refine j_get K (v := .ref (jad κ (2))) fl_X9_9 rfl (Nat.le_of_ble_eq_true rfl) (by decide) rfl dX9_put_9 ?_
    refine j_iload_n K dX9_put_12 1 rfl ?_
    refine j_iload_n K dX9_put_13 2 rfl ?_
    refine j_iastoreV K (z := 60) rfl (Nat.le_of_ble_eq_true rfl) dX9_put_14 hr (fun X2 hr => ?_)
    refine j_aload_n K dX9_put_15 0 rfl ?_
    refine j_get K (v := .ref (jad κ (3))) fl_X9_15 rfl (Nat.le_of_ble_eq_true rfl) (by decide) rfl dX9_put_16 ?_
    refine j_iload_n K dX9_put_19 1 rfl ?_
    refine j_iload_n K dX9_put_20 3 rfl ?_
    refine j_castoreV K (z := 60) rfl (Nat.le_of_ble_eq_true rfl) dX9_put_21 hr (fun X3 hr => ?_)
    exact j_return K dX9_put_22 rfl F hr rfl
theorem c_X9_put (X : JX) (v1 : Int32) (v2 : Int32) (v3 : Int32) {r : JX} (hr : f_X9_put X v1 v2 v3 = some r) : Cal LX yX9_put cX9_put 4 none 1 (fun ad => [.ref (ad (1)), .int v1, .int v2, .int v3]) X (fun ad => oU r) :=
  Cal.of (own := RX9) (fun ad => [(0, .ref (ad (1))), (1, .int v1), (2, .int v2), (3, .int v3)]) (by decide) rfl (fun _ => Nat.le_of_ble_eq_true rfl) (fun _ => rfl) (fun κ K F => jf_X9_put K X v1 v2 v3 F hr)
theorem jf_X9_setLocked {κ : JK} (K : jOk 3 cX9_setLocked RX9 none 1 κ) (X : JX) (v1 : Int32) (v2 : Int32) {r : JX} (F : jFin LX false (oU r) κ) (hr : f_X9_setLocked X v1 v2 = some r) : J LX 3 κ X 0 [(0, .ref (jad κ (1))), (1, .int v1), (2, .int v2)] [] := by
  unfold f_X9_setLocked at hr
  refine j_aload_n K dX9_setLocked_0 0 rfl ?_
  refine j_iload_n K dX9_setLocked_1 1 rfl ?_
  refine j_vI1 K (ci := 9) hr (fun v h => c_X9_isFile X v1 h) ml_X9_61 ⟨_, rfl, rfl⟩ rfl (Nat.le_of_ble_eq_true rfl) (by decide) rfl (by decide) (by decide) (Nat.le_of_ble_eq_true rfl) dX9_setLocked_2 (fun t1 h hr => ?_)
  refine j_if_eq K dX9_setLocked_5 (tgt := 15) (by decide) hr (fun hr => ?_) (fun hr => ?_)
  · exact j_return K dX9_setLocked_15 rfl F hr rfl
  · refine j_aload_n K dX9_setLocked_8 0 rfl ?_
    refine j_get K (v := .ref (jad κ (6))) fl_X9_26 rfl (Nat.le_of_ble_eq_true rfl) (by decide) rfl dX9_setLocked_9 ?_
    refine j_iload_n K dX9_setLocked_12 1 rfl ?_
    refine j_iload_n K dX9_setLocked_13 2 rfl ?_
    refine j_bastoreV K (z := 60) rfl (Nat.le_of_ble_eq_true rfl) dX9_setLocked_14 hr (fun X2 hr => ?_)
    exact j_return K dX9_setLocked_15 rfl F hr rfl
theorem c_X9_setLocked (X : JX) (v1 : Int32) (v2 : Int32) {r : JX} (hr : f_X9_setLocked X v1 v2 = some r) : Cal LX yX9_setLocked cX9_setLocked 3 none 1 (fun ad => [.ref (ad (1)), .int v1, .int v2]) X (fun ad => oU r) :=
  Cal.of (own := RX9) (fun ad => [(0, .ref (ad (1))), (1, .int v1), (2, .int v2)]) (by decide) rfl (fun _ => Nat.le_of_ble_eq_true rfl) (fun _ => rfl) (fun κ K F => jf_X9_setLocked K X v1 v2 F hr)
theorem jf_X9_setPeople {κ : JK} (K : jOk 3 cX9_setPeople RX9 none 1 κ) (X : JX) (v1 : Int32) (v2 : Int32) {r : JX} (F : jFin LX false (oU r) κ) (hr : f_X9_setPeople X v1 v2 = some r) : J LX 3 κ X 0 [(0, .ref (jad κ (1))), (1, .int v1), (2, .int v2)] [] := by
  unfold f_X9_setPeople at hr
  refine j_aload_n K dX9_setPeople_0 0 rfl ?_
  refine j_iload_n K dX9_setPeople_1 1 rfl ?_
  refine j_vI1 K (ci := 9) hr (fun v h => c_X9_isThere X v1 h) ml_X9_54 ⟨_, rfl, rfl⟩ rfl (Nat.le_of_ble_eq_true rfl) (by decide) rfl (by decide) (by decide) (Nat.le_of_ble_eq_true rfl) dX9_setPeople_2 (fun t1 h hr => ?_)
  refine j_if_eq K dX9_setPeople_5 (tgt := 15) (by decide) hr (fun hr => ?_) (fun hr => ?_)
  · exact j_return K dX9_setPeople_15 rfl F hr rfl
  · refine j_aload_n K dX9_setPeople_8 0 rfl ?_
    refine j_get K (v := .ref (jad κ (7))) fl_X9_29 rfl (Nat.le_of_ble_eq_true rfl) (by decide) rfl dX9_setPeople_9 ?_
    refine j_iload_n K dX9_setPeople_12 1 rfl ?_
    refine j_iload_n K dX9_setPeople_13 2 rfl ?_
    refine j_iastoreV K (z := 60) rfl (Nat.le_of_ble_eq_true rfl) dX9_setPeople_14 hr (fun X2 hr => ?_)
    exact j_return K dX9_setPeople_15 rfl F hr rfl
theorem c_X9_setPeople (X : JX) (v1 : Int32) (v2 : Int32) {r : JX} (hr : f_X9_setPeople X v1 v2 = some r) : Cal LX yX9_setPeople cX9_setPeople 3 none 1 (fun ad => [.ref (ad (1)), .int v1, .int v2]) X (fun ad => oU r) :=
  Cal.of (own := RX9) (fun ad => [(0, .ref (ad (1))), (1, .int v1), (2, .int v2)]) (by decide) rfl (fun _ => Nat.le_of_ble_eq_true rfl) (fun _ => rfl) (fun κ K F => jf_X9_setPeople K X v1 v2 F hr)
theorem jb_X9_takeAway_73 {κ : JK} (K : jOk 4 cX9_takeAway RX9 (some .int) 2 κ) (X : JX) (v2 : Int32) (v3 : Int32) {r : (Int32 × JX)} (F : jFin LX false (oM r) κ) (rec51 : JX → Int32 → Option (Int32 × JX)) (hrec51 : ∀ (X : JX) (v3 : Int32), rec51 X v3 = some r → J LX 4 κ X 51 [(0, .ref (jad κ (1))), (2, .int v2), (3, .int v3)] []) (hr : b_X9_takeAway_73 rec51 X v2 v3 = some r) : J LX 4 κ X 73 [(0, .ref (jad κ (1))), (2, .int v2), (3, .int v3)] [] := by
  unfold b_X9_takeAway_73 at hr
  refine j_iincV K dX9_takeAway_73 (v := 1) 2 rfl rfl (by decide) hr (fun t6 hr => ?_)
  refine j_goto K dX9_takeAway_76 (tgt := 51) (by decide) ?_
  exact j_sub [1, 2, 0] rfl (hrec51 _ _ hr)
theorem jl_X9_takeAway_51 {κ : JK} (K : jOk 4 cX9_takeAway RX9 (some .int) 2 κ) (v2 : Int32) {r : (Int32 × JX)} (F : jFin LX false (oM r) κ) : ∀ (X : JX) (v3 : Int32), l_X9_takeAway_51 v2 X v3 = some r → J LX 4 κ X 51 [(0, .ref (jad κ (1))), (2, .int v2), (3, .int v3)] [] := by
  refine j_loop2 (P := fun X v3 => J LX 4 κ X 51 [(0, .ref (jad κ (1))), (2, .int v2), (3, .int v3)] []) (fun rec51 hrec51 X v3 hr => ?_) 1000
  unfold lb_X9_takeAway_51 at hr
  refine j_iload_n K dX9_takeAway_51 2 rfl ?_
  refine j_bipush K dX9_takeAway_52 (v := 60) rfl ?_
  refine j_icmp_ge K dX9_takeAway_54 (tgt := 79) (by decide) hr (fun hr => ?_) (fun hr => ?_)
  · refine j_iload_n K dX9_takeAway_79 1 rfl ?_
    exact j_ireturn K dX9_takeAway_80 rfl F hr rfl
  · refine j_aload_n K dX9_takeAway_57 0 rfl ?_
    refine j_get K (v := .ref (jad κ (5))) fl_X9_23 rfl (Nat.le_of_ble_eq_true rfl) (by decide) rfl dX9_takeAway_58 ?_
    refine j_iload_n K dX9_takeAway_61 2 rfl ?_
    refine j_baload K (z := 60) rfl (Nat.le_of_ble_eq_true rfl) dX9_takeAway_62 hr (fun hr => ?_)
    refine j_if_ne K dX9_takeAway_63 (tgt := 73) (by decide) hr (fun hr => ?_) (fun hr => ?_)
    · exact j_sub [0, 1, 2] rfl (jb_X9_takeAway_73 K _ _ _ F rec51 hrec51 hr)
    · refine j_aload_n K dX9_takeAway_66 0 rfl ?_
      refine j_get K (v := .ref (jad κ (2))) fl_X9_9 rfl (Nat.le_of_ble_eq_true rfl) (by decide) rfl dX9_takeAway_67 ?_
      refine j_iload_n K dX9_takeAway_70 2 rfl ?_
      refine j_iconst K dX9_takeAway_71 (v := -1) rfl ?_
      refine j_iastoreV K (z := 60) rfl (Nat.le_of_ble_eq_true rfl) dX9_takeAway_72 hr (fun X2 hr => ?_)
      exact j_sub [0, 1, 2] rfl (jb_X9_takeAway_73 K _ _ _ F rec51 hrec51 hr)
theorem jb_X9_takeAway_43 {κ : JK} (K : jOk 4 cX9_takeAway RX9 (some .int) 2 κ) (X : JX) (v1 : Int32) (v2 : Int32) (v3 : Int32) {r : (Int32 × JX)} (F : jFin LX false (oM r) κ) (rec4 : JX → Int32 → Int32 → Option (Int32 × JX)) (hrec4 : ∀ (X : JX) (v2 : Int32) (v3 : Int32), rec4 X v2 v3 = some r → J LX 4 κ X 4 [(0, .ref (jad κ (1))), (1, .int v1), (2, .int v2), (3, .int v3)] []) (hr : b_X9_takeAway_43 rec4 X v1 v2 v3 = some r) : J LX 4 κ X 43 [(0, .ref (jad κ (1))), (1, .int v1), (2, .int v2), (3, .int v3)] [] := by
  unfold b_X9_takeAway_43 at hr
  refine j_iincV K dX9_takeAway_43 (v := 1) 3 rfl rfl (by decide) hr (fun t3 hr => ?_)
  refine j_goto K dX9_takeAway_46 (tgt := 4) (by decide) ?_
  exact j_sub [1, 2, 3, 0] rfl (hrec4 _ _ _ hr)
theorem jb_X9_takeAway_33 {κ : JK} (K : jOk 4 cX9_takeAway RX9 (some .int) 2 κ) (X : JX) (v1 : Int32) (v2 : Int32) (v3 : Int32) {r : (Int32 × JX)} (F : jFin LX false (oM r) κ) (rec4 : JX → Int32 → Int32 → Option (Int32 × JX)) (hrec4 : ∀ (X : JX) (v2 : Int32) (v3 : Int32), rec4 X v2 v3 = some r → J LX 4 κ X 4 [(0, .ref (jad κ (1))), (1, .int v1), (2, .int v2), (3, .int v3)] []) (hr : b_X9_takeAway_33 rec4 X v1 v2 v3 = some r) : J LX 4 κ X 33 [(0, .ref (jad κ (1))), (1, .int v1), (2, .int v2), (3, .int v3)] [] := by
  unfold b_X9_takeAway_33 at hr
  refine j_aload_n K dX9_takeAway_33 0 rfl ?_
  refine j_get K (v := .ref (jad κ (5))) fl_X9_23 rfl (Nat.le_of_ble_eq_true rfl) (by decide) rfl dX9_takeAway_34 ?_
  refine j_iload_n K dX9_takeAway_37 3 rfl ?_
  refine j_iconst K dX9_takeAway_38 (v := 0) rfl ?_
  refine j_bastoreV K (z := 60) rfl (Nat.le_of_ble_eq_true rfl) dX9_takeAway_39 hr (fun X4 hr => ?_)
  refine j_iincV K dX9_takeAway_40 (v := 1) 2 rfl rfl (by decide) hr (fun t5 hr => ?_)
  exact j_sub [1, 2, 0, 3] rfl (jb_X9_takeAway_43 K _ _ _ _ F rec4 hrec4 hr)
theorem jl_X9_takeAway_4 {κ : JK} (K : jOk 4 cX9_takeAway RX9 (some .int) 2 κ) (v1 : Int32) {r : (Int32 × JX)} (F : jFin LX false (oM r) κ) : ∀ (X : JX) (v2 : Int32) (v3 : Int32), l_X9_takeAway_4 v1 X v2 v3 = some r → J LX 4 κ X 4 [(0, .ref (jad κ (1))), (1, .int v1), (2, .int v2), (3, .int v3)] [] := by
  refine j_loop3 (P := fun X v2 v3 => J LX 4 κ X 4 [(0, .ref (jad κ (1))), (1, .int v1), (2, .int v2), (3, .int v3)] []) (fun rec4 hrec4 X v2 v3 hr => ?_) 1000
  unfold lb_X9_takeAway_4 at hr
  refine j_iload_n K dX9_takeAway_4 3 rfl ?_
  refine j_bipush K dX9_takeAway_5 (v := 60) rfl ?_
  refine j_icmp_ge K dX9_takeAway_7 (tgt := 49) (by decide) hr (fun hr => ?_) (fun hr => ?_)
  · refine j_iconst K dX9_takeAway_49 (v := 0) rfl ?_
    refine j_istore_n K dX9_takeAway_50 (by decide) ?_
    exact j_sub [1, 3, 0] rfl (jl_X9_takeAway_51 K _ F _ _ hr)
  · refine j_aload_n K dX9_takeAway_10 0 rfl ?_
    refine j_get K (v := .ref (jad κ (5))) fl_X9_23 rfl (Nat.le_of_ble_eq_true rfl) (by decide) rfl dX9_takeAway_11 ?_
    refine j_iload_n K dX9_takeAway_14 3 rfl ?_
    refine j_baload K (z := 60) rfl (Nat.le_of_ble_eq_true rfl) dX9_takeAway_15 hr (fun hr => ?_)
    refine j_if_eq K dX9_takeAway_16 (tgt := 43) (by decide) hr (fun hr => ?_) (fun hr => ?_)
    · exact j_sub [0, 1, 2, 3] rfl (jb_X9_takeAway_43 K _ _ _ _ F rec4 hrec4 hr)
    · refine j_iload_n K dX9_takeAway_19 3 rfl ?_
      refine j_iload_n K dX9_takeAway_20 1 rfl ?_
      refine j_icmp_eq K dX9_takeAway_21 (tgt := 33) (by decide) hr (fun hr => ?_) (fun hr => ?_)
      · exact j_sub [0, 1, 2, 3] rfl (jb_X9_takeAway_33 K _ _ _ _ F rec4 hrec4 hr)
      · refine j_aload_n K dX9_takeAway_24 0 rfl ?_
        refine j_iload_n K dX9_takeAway_25 3 rfl ?_
        refine j_iload_n K dX9_takeAway_26 1 rfl ?_
        refine j_vI2 K (ci := 9) hr (fun v h => c_X9_isBelow X v3 v1 h) ml_X9_64 ⟨_, rfl, rfl⟩ rfl (Nat.le_of_ble_eq_true rfl) (by decide) rfl (by decide) (by decide) (Nat.le_of_ble_eq_true rfl) dX9_takeAway_27 (fun t1 h hr => ?_)
        refine j_if_eq K dX9_takeAway_30 (tgt := 43) (by decide) hr (fun hr => ?_) (fun hr => ?_)
        · exact j_sub [0, 1, 2, 3] rfl (jb_X9_takeAway_43 K _ _ _ _ F rec4 hrec4 hr)
        · exact j_sub [0, 1, 2, 3] rfl (jb_X9_takeAway_33 K _ _ _ _ F rec4 hrec4 hr)
theorem jf_X9_takeAway {κ : JK} (K : jOk 4 cX9_takeAway RX9 (some .int) 2 κ) (X : JX) (v1 : Int32) {r : (Int32 × JX)} (F : jFin LX false (oM r) κ) (hr : f_X9_takeAway X v1 = some r) : J LX 4 κ X 0 [(0, .ref (jad κ (1))), (1, .int v1)] [] := by
  unfold f_X9_takeAway at hr
  refine j_iconst K dX9_takeAway_0 (v := 0) rfl ?_
  refine j_istore_n K dX9_takeAway_1 (by decide) ?_
  refine j_iconst K dX9_takeAway_2 (v := 0) rfl ?_
  refine j_istore_n K dX9_takeAway_3 (by decide) ?_
  exact j_sub [2, 3, 1, 0] rfl (jl_X9_takeAway_4 K _ F _ _ _ hr)
theorem c_X9_takeAway (X : JX) (v1 : Int32) {r : (Int32 × JX)} (hr : f_X9_takeAway X v1 = some r) : Cal LX yX9_takeAway cX9_takeAway 4 (some .int) 2 (fun ad => [.ref (ad (1)), .int v1]) X (fun ad => oM r) :=
  Cal.of (own := RX9) (fun ad => [(0, .ref (ad (1))), (1, .int v1)]) (by decide) rfl (fun _ => Nat.le_of_ble_eq_true rfl) (fun _ => rfl) (fun κ K F => jf_X9_takeAway K X v1 F hr)
theorem jf_X9_wasMade {κ : JK} (K : jOk 2 cX9_wasMade RX9 (some .boolean) 0 κ) (X : JX) (v1 : Int32) {r : Int32} (F : jFin LX false (oI X r) κ) (hr : f_X9_wasMade X v1 = some r) : J LX 2 κ X 0 [(0, .ref (jad κ (1))), (1, .int v1)] [] := by
  unfold f_X9_wasMade at hr
  refine j_iload_n K dX9_wasMade_0 1 rfl ?_
  refine j_if_lt K dX9_wasMade_1 (tgt := 16) (by decide) hr (fun hr => ?_) (fun hr => ?_)
  · refine j_iconst K dX9_wasMade_16 (v := 0) rfl ?_
    exact j_zreturn K dX9_wasMade_17 rfl rfl F hr rfl
  · refine j_iload_n K dX9_wasMade_4 1 rfl ?_
    refine j_aload_n K dX9_wasMade_5 0 rfl ?_
    refine j_get K (v := .int (X (1) 9)) fl_X9_43 rfl (Nat.le_of_ble_eq_true rfl) (by decide) rfl dX9_wasMade_6 ?_
    refine j_icmp_ge K dX9_wasMade_9 (tgt := 16) (by decide) hr (fun hr => ?_) (fun hr => ?_)
    · refine j_iconst K dX9_wasMade_16 (v := 0) rfl ?_
      exact j_zreturn K dX9_wasMade_17 rfl rfl F hr rfl
    · refine j_iconst K dX9_wasMade_12 (v := 1) rfl ?_
      refine j_goto K dX9_wasMade_13 (tgt := 17) (by decide) ?_
      exact j_zreturn K dX9_wasMade_17 rfl rfl F hr rfl
theorem c_X9_wasMade (X : JX) (v1 : Int32) {r : Int32} (hr : f_X9_wasMade X v1 = some r) : Cal LX yX9_wasMade cX9_wasMade 2 (some .boolean) 0 (fun ad => [.ref (ad (1)), .int v1]) X (fun ad => oI X r) :=
  Cal.of (own := RX9) (fun ad => [(0, .ref (ad (1))), (1, .int v1)]) (by decide) rfl (fun _ => Nat.le_of_ble_eq_true rfl) (fun _ => rfl) (fun κ K F => jf_X9_wasMade K X v1 F hr)
end
