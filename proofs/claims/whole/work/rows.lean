section
-- ===== PART A: goes FIRST, ahead of the names: the tables' words, and 'selects' of the private methods out of them =====
/-- a private method of a class that the tables say can be made, by its rows of tables_1 -/
def lw_okq (q : MethodName × Nat) : Prop := (q.1.cls ≠ "java/lang/invoke/MethodHandle" ∧ q.1.cls ≠ "java/lang/invoke/VarHandle") ∧ Cond.instantiable q.1.cls q.2 ∈ tables_1 ∧ Cond.privateMethod q.1 ∈ tables_1 ∧ Cond.instanceMethod q.1 ∈ tables_1
theorem lw_p0 : lw_okq (⟨"java/lang/Throwable", "fillInStackTrace", "(I)Ljava/lang/Throwable;"⟩, 6) := ⟨⟨by decide +kernel, by decide +kernel⟩, List.mem_of_getElem? (i := 485) (by decide +kernel), List.mem_of_getElem? (i := 483) (by decide +kernel), List.mem_of_getElem? (i := 484) (by decide +kernel)⟩
theorem lw_p1 : lw_okq (⟨"SearchKeeper$Keeper", "doNext", "(I)I"⟩, 6) := ⟨⟨by decide +kernel, by decide +kernel⟩, List.mem_of_getElem? (i := 200) (by decide +kernel), List.mem_of_getElem? (i := 829) (by decide +kernel), List.mem_of_getElem? (i := 830) (by decide +kernel)⟩
theorem lw_p2 : lw_okq (⟨"SearchKeeper$Keeper", "hear", "(LSearchKeeper$Root;)V"⟩, 6) := ⟨⟨by decide +kernel, by decide +kernel⟩, List.mem_of_getElem? (i := 200) (by decide +kernel), List.mem_of_getElem? (i := 834) (by decide +kernel), List.mem_of_getElem? (i := 835) (by decide +kernel)⟩
theorem lw_p3 : lw_okq (⟨"SearchKeeper$Keeper", "act", "(II)I"⟩, 6) := ⟨⟨by decide +kernel, by decide +kernel⟩, List.mem_of_getElem? (i := 200) (by decide +kernel), List.mem_of_getElem? (i := 847) (by decide +kernel), List.mem_of_getElem? (i := 848) (by decide +kernel)⟩
theorem lw_p4 : lw_okq (⟨"SearchKeeper$Keeper", "lookAtFile", "(II)I"⟩, 6) := ⟨⟨by decide +kernel, by decide +kernel⟩, List.mem_of_getElem? (i := 200) (by decide +kernel), List.mem_of_getElem? (i := 857) (by decide +kernel), List.mem_of_getElem? (i := 858) (by decide +kernel)⟩
theorem lw_p5 : lw_okq (⟨"SearchKeeper$Keeper", "lookAtFolder", "(I)V"⟩, 6) := ⟨⟨by decide +kernel, by decide +kernel⟩, List.mem_of_getElem? (i := 200) (by decide +kernel), List.mem_of_getElem? (i := 915) (by decide +kernel), List.mem_of_getElem? (i := 916) (by decide +kernel)⟩
theorem lw_p6 : lw_okq (⟨"SearchKeeper$Keeper", "crawlOn", "(LSearchKeeper$Root;)V"⟩, 6) := ⟨⟨by decide +kernel, by decide +kernel⟩, List.mem_of_getElem? (i := 200) (by decide +kernel), List.mem_of_getElem? (i := 924) (by decide +kernel), List.mem_of_getElem? (i := 925) (by decide +kernel)⟩
theorem lw_p7 : lw_okq (⟨"SearchKeeper$Keeper", "meetAllIn", "(ILSearchKeeper$Crawl;)V"⟩, 6) := ⟨⟨by decide +kernel, by decide +kernel⟩, List.mem_of_getElem? (i := 200) (by decide +kernel), List.mem_of_getElem? (i := 933) (by decide +kernel), List.mem_of_getElem? (i := 934) (by decide +kernel)⟩
theorem lw_p8 : lw_okq (⟨"SearchKeeper$Keeper", "lookAtUnmet", "(LSearchKeeper$Crawl;)V"⟩, 6) := ⟨⟨by decide +kernel, by decide +kernel⟩, List.mem_of_getElem? (i := 200) (by decide +kernel), List.mem_of_getElem? (i := 944) (by decide +kernel), List.mem_of_getElem? (i := 945) (by decide +kernel)⟩
theorem lw_p9 : lw_okq (⟨"SearchKeeper$Index", "bury", "(I)V"⟩, 4) := ⟨⟨by decide +kernel, by decide +kernel⟩, List.mem_of_getElem? (i := 225) (by decide +kernel), List.mem_of_getElem? (i := 965) (by decide +kernel), List.mem_of_getElem? (i := 966) (by decide +kernel)⟩
theorem lw_p10 : lw_okq (⟨"SearchKeeper$Index", "addSegment", "(LSearchKeeper$Entries;)V"⟩, 4) := ⟨⟨by decide +kernel, by decide +kernel⟩, List.mem_of_getElem? (i := 225) (by decide +kernel), List.mem_of_getElem? (i := 969) (by decide +kernel), List.mem_of_getElem? (i := 970) (by decide +kernel)⟩
theorem lw_p11 : lw_okq (⟨"SearchKeeper$Index", "close", "(I)V"⟩, 4) := ⟨⟨by decide +kernel, by decide +kernel⟩, List.mem_of_getElem? (i := 225) (by decide +kernel), List.mem_of_getElem? (i := 973) (by decide +kernel), List.mem_of_getElem? (i := 974) (by decide +kernel)⟩
theorem lw_p12 : lw_okq (⟨"SearchKeeper$Index", "smallestPair", "()I"⟩, 4) := ⟨⟨by decide +kernel, by decide +kernel⟩, List.mem_of_getElem? (i := 225) (by decide +kernel), List.mem_of_getElem? (i := 977) (by decide +kernel), List.mem_of_getElem? (i := 978) (by decide +kernel)⟩
theorem lw_p13 : lw_okq (⟨"SearchKeeper$Index", "joinWithNext", "(I)V"⟩, 4) := ⟨⟨by decide +kernel, by decide +kernel⟩, List.mem_of_getElem? (i := 225) (by decide +kernel), List.mem_of_getElem? (i := 981) (by decide +kernel), List.mem_of_getElem? (i := 982) (by decide +kernel)⟩
theorem lw_p14 : lw_okq (⟨"SearchKeeper", "isMadeOrNone", "(I)Z"⟩, 9) := ⟨⟨by decide +kernel, by decide +kernel⟩, List.mem_of_getElem? (i := 21) (by decide +kernel), List.mem_of_getElem? (i := 1018) (by decide +kernel), List.mem_of_getElem? (i := 1019) (by decide +kernel)⟩
theorem lw_p15 : lw_okq (⟨"SearchKeeper$Questions", "scoreOf", "(IIII)I"⟩, 6) := ⟨⟨by decide +kernel, by decide +kernel⟩, List.mem_of_getElem? (i := 263) (by decide +kernel), List.mem_of_getElem? (i := 1032) (by decide +kernel), List.mem_of_getElem? (i := 1033) (by decide +kernel)⟩
def lw_privs_1 : List (MethodName × Nat) := [(⟨"java/lang/Throwable", "fillInStackTrace", "(I)Ljava/lang/Throwable;"⟩, 6), (⟨"SearchKeeper$Keeper", "doNext", "(I)I"⟩, 6), (⟨"SearchKeeper$Keeper", "hear", "(LSearchKeeper$Root;)V"⟩, 6), (⟨"SearchKeeper$Keeper", "act", "(II)I"⟩, 6), (⟨"SearchKeeper$Keeper", "lookAtFile", "(II)I"⟩, 6), (⟨"SearchKeeper$Keeper", "lookAtFolder", "(I)V"⟩, 6), (⟨"SearchKeeper$Keeper", "crawlOn", "(LSearchKeeper$Root;)V"⟩, 6), (⟨"SearchKeeper$Keeper", "meetAllIn", "(ILSearchKeeper$Crawl;)V"⟩, 6), (⟨"SearchKeeper$Keeper", "lookAtUnmet", "(LSearchKeeper$Crawl;)V"⟩, 6), (⟨"SearchKeeper$Index", "bury", "(I)V"⟩, 4), (⟨"SearchKeeper$Index", "addSegment", "(LSearchKeeper$Entries;)V"⟩, 4), (⟨"SearchKeeper$Index", "close", "(I)V"⟩, 4), (⟨"SearchKeeper$Index", "smallestPair", "()I"⟩, 4), (⟨"SearchKeeper$Index", "joinWithNext", "(I)V"⟩, 4), (⟨"SearchKeeper", "isMadeOrNone", "(I)Z"⟩, 9), (⟨"SearchKeeper$Questions", "scoreOf", "(IIII)I"⟩, 6)]
theorem lw_r1 : ∀ q ∈ lw_privs_1, lw_okq q := List.forall_mem_cons.mpr ⟨lw_p0, List.forall_mem_cons.mpr ⟨lw_p1, List.forall_mem_cons.mpr ⟨lw_p2, List.forall_mem_cons.mpr ⟨lw_p3, List.forall_mem_cons.mpr ⟨lw_p4, List.forall_mem_cons.mpr ⟨lw_p5, List.forall_mem_cons.mpr ⟨lw_p6, List.forall_mem_cons.mpr ⟨lw_p7, List.forall_mem_cons.mpr ⟨lw_p8, List.forall_mem_cons.mpr ⟨lw_p9, List.forall_mem_cons.mpr ⟨lw_p10, List.forall_mem_cons.mpr ⟨lw_p11, List.forall_mem_cons.mpr ⟨lw_p12, List.forall_mem_cons.mpr ⟨lw_p13, List.forall_mem_cons.mpr ⟨lw_p14, List.forall_mem_cons.mpr ⟨lw_p15, fun _ h => absurd h List.not_mem_nil⟩⟩⟩⟩⟩⟩⟩⟩⟩⟩⟩⟩⟩⟩⟩⟩
theorem lw_p16 : lw_okq (⟨"SearchKeeper$Questions", "isWithinNow", "(II)Z"⟩, 6) := ⟨⟨by decide +kernel, by decide +kernel⟩, List.mem_of_getElem? (i := 263) (by decide +kernel), List.mem_of_getElem? (i := 1058) (by decide +kernel), List.mem_of_getElem? (i := 1059) (by decide +kernel)⟩
theorem lw_p17 : lw_okq (⟨"SearchKeeper$Questions", "countAhead", "(I)I"⟩, 6) := ⟨⟨by decide +kernel, by decide +kernel⟩, List.mem_of_getElem? (i := 263) (by decide +kernel), List.mem_of_getElem? (i := 1079) (by decide +kernel), List.mem_of_getElem? (i := 1080) (by decide +kernel)⟩
theorem lw_p18 : lw_okq (⟨"SearchKeeperModel", "isFolderAt", "(I)Z"⟩, 46) := ⟨⟨by decide +kernel, by decide +kernel⟩, List.mem_of_getElem? (i := 1100) (by decide +kernel), List.mem_of_getElem? (i := 1253) (by decide +kernel), List.mem_of_getElem? (i := 1254) (by decide +kernel)⟩
theorem lw_p19 : lw_okq (⟨"SearchKeeperModel", "isNode", "(I)Z"⟩, 46) := ⟨⟨by decide +kernel, by decide +kernel⟩, List.mem_of_getElem? (i := 1100) (by decide +kernel), List.mem_of_getElem? (i := 1257) (by decide +kernel), List.mem_of_getElem? (i := 1258) (by decide +kernel)⟩
theorem lw_p20 : lw_okq (⟨"SearchKeeperModel", "fails", "(I)I"⟩, 46) := ⟨⟨by decide +kernel, by decide +kernel⟩, List.mem_of_getElem? (i := 1100) (by decide +kernel), List.mem_of_getElem? (i := 1264) (by decide +kernel), List.mem_of_getElem? (i := 1265) (by decide +kernel)⟩
theorem lw_p21 : lw_okq (⟨"SearchKeeperModel", "isTaken", "(ICI)Z"⟩, 46) := ⟨⟨by decide +kernel, by decide +kernel⟩, List.mem_of_getElem? (i := 1100) (by decide +kernel), List.mem_of_getElem? (i := 1268) (by decide +kernel), List.mem_of_getElem? (i := 1269) (by decide +kernel)⟩
theorem lw_p22 : lw_okq (⟨"SearchKeeperModel", "over", "(I)I"⟩, 46) := ⟨⟨by decide +kernel, by decide +kernel⟩, List.mem_of_getElem? (i := 1100) (by decide +kernel), List.mem_of_getElem? (i := 1272) (by decide +kernel), List.mem_of_getElem? (i := 1273) (by decide +kernel)⟩
theorem lw_p23 : lw_okq (⟨"SearchKeeperModel", "isBelow", "(II)Z"⟩, 46) := ⟨⟨by decide +kernel, by decide +kernel⟩, List.mem_of_getElem? (i := 1100) (by decide +kernel), List.mem_of_getElem? (i := 1276) (by decide +kernel), List.mem_of_getElem? (i := 1277) (by decide +kernel)⟩
theorem lw_p24 : lw_okq (⟨"SearchKeeperModel", "comes", "(III)V"⟩, 46) := ⟨⟨by decide +kernel, by decide +kernel⟩, List.mem_of_getElem? (i := 1100) (by decide +kernel), List.mem_of_getElem? (i := 1280) (by decide +kernel), List.mem_of_getElem? (i := 1281) (by decide +kernel)⟩
theorem lw_p25 : lw_okq (⟨"SearchKeeperModel", "isFileAt", "(I)Z"⟩, 46) := ⟨⟨by decide +kernel, by decide +kernel⟩, List.mem_of_getElem? (i := 1100) (by decide +kernel), List.mem_of_getElem? (i := 1288) (by decide +kernel), List.mem_of_getElem? (i := 1289) (by decide +kernel)⟩
theorem lw_p26 : lw_okq (⟨"SearchKeeperModel", "holdsRoot", "(I)Z"⟩, 46) := ⟨⟨by decide +kernel, by decide +kernel⟩, List.mem_of_getElem? (i := 1100) (by decide +kernel), List.mem_of_getElem? (i := 1300) (by decide +kernel), List.mem_of_getElem? (i := 1301) (by decide +kernel)⟩
theorem lw_p27 : lw_okq (⟨"SearchKeeperModel", "rootAt", "(I)I"⟩, 46) := ⟨⟨by decide +kernel, by decide +kernel⟩, List.mem_of_getElem? (i := 1100) (by decide +kernel), List.mem_of_getElem? (i := 1304) (by decide +kernel), List.mem_of_getElem? (i := 1305) (by decide +kernel)⟩
theorem lw_p28 : lw_okq (⟨"SearchKeeperModel", "drops", "(I)V"⟩, 46) := ⟨⟨by decide +kernel, by decide +kernel⟩, List.mem_of_getElem? (i := 1100) (by decide +kernel), List.mem_of_getElem? (i := 1312) (by decide +kernel), List.mem_of_getElem? (i := 1313) (by decide +kernel)⟩
theorem lw_p29 : lw_okq (⟨"SearchKeeperModel", "looksAtLost", "()V"⟩, 46) := ⟨⟨by decide +kernel, by decide +kernel⟩, List.mem_of_getElem? (i := 1100) (by decide +kernel), List.mem_of_getElem? (i := 1316) (by decide +kernel), List.mem_of_getElem? (i := 1317) (by decide +kernel)⟩
theorem lw_p30 : lw_okq (⟨"SearchKeeperModel", "adds", "(II)V"⟩, 46) := ⟨⟨by decide +kernel, by decide +kernel⟩, List.mem_of_getElem? (i := 1100) (by decide +kernel), List.mem_of_getElem? (i := 1320) (by decide +kernel), List.mem_of_getElem? (i := 1321) (by decide +kernel)⟩
theorem lw_p31 : lw_okq (⟨"SearchKeeperModel", "mayReadAt", "(II)Z"⟩, 46) := ⟨⟨by decide +kernel, by decide +kernel⟩, List.mem_of_getElem? (i := 1100) (by decide +kernel), List.mem_of_getElem? (i := 1336) (by decide +kernel), List.mem_of_getElem? (i := 1337) (by decide +kernel)⟩
def lw_privs_2 : List (MethodName × Nat) := [(⟨"SearchKeeper$Questions", "isWithinNow", "(II)Z"⟩, 6), (⟨"SearchKeeper$Questions", "countAhead", "(I)I"⟩, 6), (⟨"SearchKeeperModel", "isFolderAt", "(I)Z"⟩, 46), (⟨"SearchKeeperModel", "isNode", "(I)Z"⟩, 46), (⟨"SearchKeeperModel", "fails", "(I)I"⟩, 46), (⟨"SearchKeeperModel", "isTaken", "(ICI)Z"⟩, 46), (⟨"SearchKeeperModel", "over", "(I)I"⟩, 46), (⟨"SearchKeeperModel", "isBelow", "(II)Z"⟩, 46), (⟨"SearchKeeperModel", "comes", "(III)V"⟩, 46), (⟨"SearchKeeperModel", "isFileAt", "(I)Z"⟩, 46), (⟨"SearchKeeperModel", "holdsRoot", "(I)Z"⟩, 46), (⟨"SearchKeeperModel", "rootAt", "(I)I"⟩, 46), (⟨"SearchKeeperModel", "drops", "(I)V"⟩, 46), (⟨"SearchKeeperModel", "looksAtLost", "()V"⟩, 46), (⟨"SearchKeeperModel", "adds", "(II)V"⟩, 46), (⟨"SearchKeeperModel", "mayReadAt", "(II)Z"⟩, 46)]
theorem lw_r2 : ∀ q ∈ lw_privs_2, lw_okq q := List.forall_mem_cons.mpr ⟨lw_p16, List.forall_mem_cons.mpr ⟨lw_p17, List.forall_mem_cons.mpr ⟨lw_p18, List.forall_mem_cons.mpr ⟨lw_p19, List.forall_mem_cons.mpr ⟨lw_p20, List.forall_mem_cons.mpr ⟨lw_p21, List.forall_mem_cons.mpr ⟨lw_p22, List.forall_mem_cons.mpr ⟨lw_p23, List.forall_mem_cons.mpr ⟨lw_p24, List.forall_mem_cons.mpr ⟨lw_p25, List.forall_mem_cons.mpr ⟨lw_p26, List.forall_mem_cons.mpr ⟨lw_p27, List.forall_mem_cons.mpr ⟨lw_p28, List.forall_mem_cons.mpr ⟨lw_p29, List.forall_mem_cons.mpr ⟨lw_p30, List.forall_mem_cons.mpr ⟨lw_p31, fun _ h => absurd h List.not_mem_nil⟩⟩⟩⟩⟩⟩⟩⟩⟩⟩⟩⟩⟩⟩⟩⟩
theorem lw_p32 : lw_okq (⟨"SearchKeeperModel", "beginsCrawl", "(I)V"⟩, 46) := ⟨⟨by decide +kernel, by decide +kernel⟩, List.mem_of_getElem? (i := 1100) (by decide +kernel), List.mem_of_getElem? (i := 1348) (by decide +kernel), List.mem_of_getElem? (i := 1349) (by decide +kernel)⟩
theorem lw_p33 : lw_okq (⟨"SearchKeeperModel", "does", "(I)I"⟩, 46) := ⟨⟨by decide +kernel, by decide +kernel⟩, List.mem_of_getElem? (i := 1100) (by decide +kernel), List.mem_of_getElem? (i := 1381) (by decide +kernel), List.mem_of_getElem? (i := 1382) (by decide +kernel)⟩
theorem lw_p34 : lw_okq (⟨"SearchKeeperModel", "firstNoticed", "()I"⟩, 46) := ⟨⟨by decide +kernel, by decide +kernel⟩, List.mem_of_getElem? (i := 1100) (by decide +kernel), List.mem_of_getElem? (i := 1385) (by decide +kernel), List.mem_of_getElem? (i := 1386) (by decide +kernel)⟩
theorem lw_p35 : lw_okq (⟨"SearchKeeperModel", "firstAct", "()I"⟩, 46) := ⟨⟨by decide +kernel, by decide +kernel⟩, List.mem_of_getElem? (i := 1100) (by decide +kernel), List.mem_of_getElem? (i := 1389) (by decide +kernel), List.mem_of_getElem? (i := 1390) (by decide +kernel)⟩
theorem lw_p36 : lw_okq (⟨"SearchKeeperModel", "firstCrawl", "()I"⟩, 46) := ⟨⟨by decide +kernel, by decide +kernel⟩, List.mem_of_getElem? (i := 1100) (by decide +kernel), List.mem_of_getElem? (i := 1393) (by decide +kernel), List.mem_of_getElem? (i := 1394) (by decide +kernel)⟩
theorem lw_p37 : lw_okq (⟨"SearchKeeperModel", "cost", "(I)I"⟩, 46) := ⟨⟨by decide +kernel, by decide +kernel⟩, List.mem_of_getElem? (i := 1100) (by decide +kernel), List.mem_of_getElem? (i := 1397) (by decide +kernel), List.mem_of_getElem? (i := 1398) (by decide +kernel)⟩
theorem lw_p38 : lw_okq (⟨"SearchKeeperModel", "notes", "(I)V"⟩, 46) := ⟨⟨by decide +kernel, by decide +kernel⟩, List.mem_of_getElem? (i := 1100) (by decide +kernel), List.mem_of_getElem? (i := 1401) (by decide +kernel), List.mem_of_getElem? (i := 1402) (by decide +kernel)⟩
theorem lw_p39 : lw_okq (⟨"SearchKeeperModel", "acts", "(I)V"⟩, 46) := ⟨⟨by decide +kernel, by decide +kernel⟩, List.mem_of_getElem? (i := 1100) (by decide +kernel), List.mem_of_getElem? (i := 1405) (by decide +kernel), List.mem_of_getElem? (i := 1406) (by decide +kernel)⟩
theorem lw_p40 : lw_okq (⟨"SearchKeeperModel", "takesAct", "(I)V"⟩, 46) := ⟨⟨by decide +kernel, by decide +kernel⟩, List.mem_of_getElem? (i := 1100) (by decide +kernel), List.mem_of_getElem? (i := 1409) (by decide +kernel), List.mem_of_getElem? (i := 1410) (by decide +kernel)⟩
theorem lw_p41 : lw_okq (⟨"SearchKeeperModel", "forgets", "(I)V"⟩, 46) := ⟨⟨by decide +kernel, by decide +kernel⟩, List.mem_of_getElem? (i := 1100) (by decide +kernel), List.mem_of_getElem? (i := 1413) (by decide +kernel), List.mem_of_getElem? (i := 1414) (by decide +kernel)⟩
theorem lw_p42 : lw_okq (⟨"SearchKeeperModel", "liesBelow", "(II)Z"⟩, 46) := ⟨⟨by decide +kernel, by decide +kernel⟩, List.mem_of_getElem? (i := 1100) (by decide +kernel), List.mem_of_getElem? (i := 1417) (by decide +kernel), List.mem_of_getElem? (i := 1418) (by decide +kernel)⟩
theorem lw_p43 : lw_okq (⟨"SearchKeeperModel", "kills", "(I)V"⟩, 46) := ⟨⟨by decide +kernel, by decide +kernel⟩, List.mem_of_getElem? (i := 1100) (by decide +kernel), List.mem_of_getElem? (i := 1421) (by decide +kernel), List.mem_of_getElem? (i := 1422) (by decide +kernel)⟩
theorem lw_p44 : lw_okq (⟨"SearchKeeperModel", "places", "(I)V"⟩, 46) := ⟨⟨by decide +kernel, by decide +kernel⟩, List.mem_of_getElem? (i := 1100) (by decide +kernel), List.mem_of_getElem? (i := 1425) (by decide +kernel), List.mem_of_getElem? (i := 1426) (by decide +kernel)⟩
theorem lw_p45 : lw_okq (⟨"SearchKeeperModel", "reads", "(I)V"⟩, 46) := ⟨⟨by decide +kernel, by decide +kernel⟩, List.mem_of_getElem? (i := 1100) (by decide +kernel), List.mem_of_getElem? (i := 1429) (by decide +kernel), List.mem_of_getElem? (i := 1430) (by decide +kernel)⟩
theorem lw_p46 : lw_okq (⟨"SearchKeeperModel", "takesWords", "(I)V"⟩, 46) := ⟨⟨by decide +kernel, by decide +kernel⟩, List.mem_of_getElem? (i := 1100) (by decide +kernel), List.mem_of_getElem? (i := 1433) (by decide +kernel), List.mem_of_getElem? (i := 1434) (by decide +kernel)⟩
theorem lw_p47 : lw_okq (⟨"SearchKeeperModel", "goesOn", "(I)V"⟩, 46) := ⟨⟨by decide +kernel, by decide +kernel⟩, List.mem_of_getElem? (i := 1100) (by decide +kernel), List.mem_of_getElem? (i := 1437) (by decide +kernel), List.mem_of_getElem? (i := 1438) (by decide +kernel)⟩
def lw_privs_3 : List (MethodName × Nat) := [(⟨"SearchKeeperModel", "beginsCrawl", "(I)V"⟩, 46), (⟨"SearchKeeperModel", "does", "(I)I"⟩, 46), (⟨"SearchKeeperModel", "firstNoticed", "()I"⟩, 46), (⟨"SearchKeeperModel", "firstAct", "()I"⟩, 46), (⟨"SearchKeeperModel", "firstCrawl", "()I"⟩, 46), (⟨"SearchKeeperModel", "cost", "(I)I"⟩, 46), (⟨"SearchKeeperModel", "notes", "(I)V"⟩, 46), (⟨"SearchKeeperModel", "acts", "(I)V"⟩, 46), (⟨"SearchKeeperModel", "takesAct", "(I)V"⟩, 46), (⟨"SearchKeeperModel", "forgets", "(I)V"⟩, 46), (⟨"SearchKeeperModel", "liesBelow", "(II)Z"⟩, 46), (⟨"SearchKeeperModel", "kills", "(I)V"⟩, 46), (⟨"SearchKeeperModel", "places", "(I)V"⟩, 46), (⟨"SearchKeeperModel", "reads", "(I)V"⟩, 46), (⟨"SearchKeeperModel", "takesWords", "(I)V"⟩, 46), (⟨"SearchKeeperModel", "goesOn", "(I)V"⟩, 46)]
theorem lw_r3 : ∀ q ∈ lw_privs_3, lw_okq q := List.forall_mem_cons.mpr ⟨lw_p32, List.forall_mem_cons.mpr ⟨lw_p33, List.forall_mem_cons.mpr ⟨lw_p34, List.forall_mem_cons.mpr ⟨lw_p35, List.forall_mem_cons.mpr ⟨lw_p36, List.forall_mem_cons.mpr ⟨lw_p37, List.forall_mem_cons.mpr ⟨lw_p38, List.forall_mem_cons.mpr ⟨lw_p39, List.forall_mem_cons.mpr ⟨lw_p40, List.forall_mem_cons.mpr ⟨lw_p41, List.forall_mem_cons.mpr ⟨lw_p42, List.forall_mem_cons.mpr ⟨lw_p43, List.forall_mem_cons.mpr ⟨lw_p44, List.forall_mem_cons.mpr ⟨lw_p45, List.forall_mem_cons.mpr ⟨lw_p46, List.forall_mem_cons.mpr ⟨lw_p47, fun _ h => absurd h List.not_mem_nil⟩⟩⟩⟩⟩⟩⟩⟩⟩⟩⟩⟩⟩⟩⟩⟩
theorem lw_p48 : lw_okq (⟨"SearchKeeperModel", "isKnown", "(I)Z"⟩, 46) := ⟨⟨by decide +kernel, by decide +kernel⟩, List.mem_of_getElem? (i := 1100) (by decide +kernel), List.mem_of_getElem? (i := 1441) (by decide +kernel), List.mem_of_getElem? (i := 1442) (by decide +kernel)⟩
theorem lw_p49 : lw_okq (⟨"SearchKeeperModel", "isWaiting", "(II)Z"⟩, 46) := ⟨⟨by decide +kernel, by decide +kernel⟩, List.mem_of_getElem? (i := 1100) (by decide +kernel), List.mem_of_getElem? (i := 1445) (by decide +kernel), List.mem_of_getElem? (i := 1446) (by decide +kernel)⟩
theorem lw_p50 : lw_okq (⟨"SearchKeeperModel", "indexes", "()V"⟩, 46) := ⟨⟨by decide +kernel, by decide +kernel⟩, List.mem_of_getElem? (i := 1100) (by decide +kernel), List.mem_of_getElem? (i := 1449) (by decide +kernel), List.mem_of_getElem? (i := 1450) (by decide +kernel)⟩
theorem lw_p51 : lw_okq (⟨"SearchKeeperModel", "count", "(IZ)I"⟩, 46) := ⟨⟨by decide +kernel, by decide +kernel⟩, List.mem_of_getElem? (i := 1100) (by decide +kernel), List.mem_of_getElem? (i := 1453) (by decide +kernel), List.mem_of_getElem? (i := 1454) (by decide +kernel)⟩
theorem lw_p52 : lw_okq (⟨"SearchKeeperModel", "cleans", "(I)V"⟩, 46) := ⟨⟨by decide +kernel, by decide +kernel⟩, List.mem_of_getElem? (i := 1100) (by decide +kernel), List.mem_of_getElem? (i := 1457) (by decide +kernel), List.mem_of_getElem? (i := 1458) (by decide +kernel)⟩
theorem lw_p53 : lw_okq (⟨"SearchKeeperModel", "takesPlace", "(I)V"⟩, 46) := ⟨⟨by decide +kernel, by decide +kernel⟩, List.mem_of_getElem? (i := 1100) (by decide +kernel), List.mem_of_getElem? (i := 1461) (by decide +kernel), List.mem_of_getElem? (i := 1462) (by decide +kernel)⟩
theorem lw_p54 : lw_okq (⟨"SearchKeeperModel", "joins", "(I)V"⟩, 46) := ⟨⟨by decide +kernel, by decide +kernel⟩, List.mem_of_getElem? (i := 1100) (by decide +kernel), List.mem_of_getElem? (i := 1465) (by decide +kernel), List.mem_of_getElem? (i := 1466) (by decide +kernel)⟩
theorem lw_p55 : lw_okq (⟨"SearchKeeperModel", "canAsk", "(IIII)Z"⟩, 46) := ⟨⟨by decide +kernel, by decide +kernel⟩, List.mem_of_getElem? (i := 1100) (by decide +kernel), List.mem_of_getElem? (i := 1505) (by decide +kernel), List.mem_of_getElem? (i := 1506) (by decide +kernel)⟩
theorem lw_p56 : lw_okq (⟨"SearchKeeperModel", "areWords", "(II)Z"⟩, 46) := ⟨⟨by decide +kernel, by decide +kernel⟩, List.mem_of_getElem? (i := 1100) (by decide +kernel), List.mem_of_getElem? (i := 1509) (by decide +kernel), List.mem_of_getElem? (i := 1510) (by decide +kernel)⟩
theorem lw_p57 : lw_okq (⟨"SearchKeeperModel", "isAnswer", "(IIIII)Z"⟩, 46) := ⟨⟨by decide +kernel, by decide +kernel⟩, List.mem_of_getElem? (i := 1100) (by decide +kernel), List.mem_of_getElem? (i := 1513) (by decide +kernel), List.mem_of_getElem? (i := 1514) (by decide +kernel)⟩
theorem lw_p58 : lw_okq (⟨"SearchKeeperModel", "has", "(III)Z"⟩, 46) := ⟨⟨by decide +kernel, by decide +kernel⟩, List.mem_of_getElem? (i := 1100) (by decide +kernel), List.mem_of_getElem? (i := 1517) (by decide +kernel), List.mem_of_getElem? (i := 1518) (by decide +kernel)⟩
theorem lw_p59 : lw_okq (⟨"SearchKeeperModel", "often", "(II)I"⟩, 46) := ⟨⟨by decide +kernel, by decide +kernel⟩, List.mem_of_getElem? (i := 1100) (by decide +kernel), List.mem_of_getElem? (i := 1521) (by decide +kernel), List.mem_of_getElem? (i := 1522) (by decide +kernel)⟩
theorem lw_p60 : lw_okq (⟨"SearchKeeperModel", "score", "(III)I"⟩, 46) := ⟨⟨by decide +kernel, by decide +kernel⟩, List.mem_of_getElem? (i := 1100) (by decide +kernel), List.mem_of_getElem? (i := 1533) (by decide +kernel), List.mem_of_getElem? (i := 1534) (by decide +kernel)⟩
def lw_privs_4 : List (MethodName × Nat) := [(⟨"SearchKeeperModel", "isKnown", "(I)Z"⟩, 46), (⟨"SearchKeeperModel", "isWaiting", "(II)Z"⟩, 46), (⟨"SearchKeeperModel", "indexes", "()V"⟩, 46), (⟨"SearchKeeperModel", "count", "(IZ)I"⟩, 46), (⟨"SearchKeeperModel", "cleans", "(I)V"⟩, 46), (⟨"SearchKeeperModel", "takesPlace", "(I)V"⟩, 46), (⟨"SearchKeeperModel", "joins", "(I)V"⟩, 46), (⟨"SearchKeeperModel", "canAsk", "(IIII)Z"⟩, 46), (⟨"SearchKeeperModel", "areWords", "(II)Z"⟩, 46), (⟨"SearchKeeperModel", "isAnswer", "(IIIII)Z"⟩, 46), (⟨"SearchKeeperModel", "has", "(III)Z"⟩, 46), (⟨"SearchKeeperModel", "often", "(II)I"⟩, 46), (⟨"SearchKeeperModel", "score", "(III)I"⟩, 46)]
theorem lw_r4 : ∀ q ∈ lw_privs_4, lw_okq q := List.forall_mem_cons.mpr ⟨lw_p48, List.forall_mem_cons.mpr ⟨lw_p49, List.forall_mem_cons.mpr ⟨lw_p50, List.forall_mem_cons.mpr ⟨lw_p51, List.forall_mem_cons.mpr ⟨lw_p52, List.forall_mem_cons.mpr ⟨lw_p53, List.forall_mem_cons.mpr ⟨lw_p54, List.forall_mem_cons.mpr ⟨lw_p55, List.forall_mem_cons.mpr ⟨lw_p56, List.forall_mem_cons.mpr ⟨lw_p57, List.forall_mem_cons.mpr ⟨lw_p58, List.forall_mem_cons.mpr ⟨lw_p59, List.forall_mem_cons.mpr ⟨lw_p60, fun _ h => absurd h List.not_mem_nil⟩⟩⟩⟩⟩⟩⟩⟩⟩⟩⟩⟩⟩
def lw_privs : List (MethodName × Nat) := lw_privs_1 ++ (lw_privs_2 ++ (lw_privs_3 ++ (lw_privs_4)))
def lw_tbl : List Cond := k2_sels lw_privs ++ tables_1
theorem lw_privs_ok : ∀ q ∈ lw_privs, lw_okq q := by
  show ∀ q ∈ lw_privs_1 ++ (lw_privs_2 ++ (lw_privs_3 ++ (lw_privs_4))), lw_okq q
  exact List.forall_mem_append.mpr ⟨lw_r1, List.forall_mem_append.mpr ⟨lw_r2, List.forall_mem_append.mpr ⟨lw_r3, lw_r4⟩⟩⟩
-- ===== end of PART A; then your names; then what follows =====
/-! ===== BEGIN words of one list among another's, by their places ===== -/
theorem goodIn_r {big : List Cond} (ws : List Cond) (ps : List Nat) (hp : ws = ps.filterMap (fun i => big[i]?)) (h : ws.all goodWord = true) : GoodIn big ws := by
  intro w hw
  have h1 := List.all_eq_true.mp h w hw
  rw [hp] at hw
  obtain ⟨i, -, hi⟩ := List.mem_filterMap.mp hw
  have hm : w ∈ big := by first | exact List.mem_of_getElem? hi | exact List.getElem?_mem hi
  exact ⟨hm, good_of_word h1⟩
theorem goodIn_app {big a b : List Cond} (ha : GoodIn big a) (hb : GoodIn big b) : GoodIn big (a ++ b) := fun w h => (List.mem_append.mp h).elim (ha w) (hb w)
theorem goodIn_ca {big a b : List Cond} {c : Cond} (ha : GoodIn big (c :: a)) (hb : GoodIn big b) : GoodIn big (c :: (a ++ b)) := fun w h => (List.mem_cons.mp h).elim (fun e => ha w (List.mem_cons.mpr (Or.inl e))) (fun h => (List.mem_append.mp h).elim (fun h => ha w (List.mem_cons.mpr (Or.inr h))) (hb w))
theorem goodIn_sub {big ws : List Cond} (hm : ∀ w ∈ ws, w ∈ big) (h : ws.all goodWord = true) : GoodIn big ws := fun w hw => ⟨hm w hw, good_of_word (List.all_eq_true.mp h w hw)⟩
/-! ===== END ===== -/

/-! ===== BEGIN exceptions that leave a method, and their catching by the caller (launches without stack traces) ===== -/
section VXA
/-! The laws vx_back, vx_callV, vx_callS, vx_callSW, vx_throw0, vx_throwS follow proofs of the library, with one case more: JvmDerived/Free/Laws.lean (Back.of_free), Shelf42/LK1.lean (callV, callS), Shelf/KitTraced.lean (throwNew0V, throwNewS). -/
/-- where a method has thrown q: the class by its name, the cell, what was written, the world -/
def vx_T (XC : String → State → State → Prop) (st : State) (q : Addr) (t : State) (mc ms : Nat) (free : Addr → Prop) : Prop :=
  ∃ (E : String) (ce : Cell) (L : List Loc), XC E st t ∧ t.heap[q]? = some ce ∧ ce.vm = .none ∧ st.vm.findClass E = some ce.cls ∧ st.WarmedH t.vm ∧ st.sameButNew ({ t with vm := st.vm } : State) L mc ms ∧ ∀ z ∈ L, free z.base
def vx_Q (Qc : Array Value → State → Outcome → State → Prop) (XC : String → State → State → Prop) (mc ms : Nat) (free : Addr → Prop) : Array Value → State → Outcome → State → Prop := fun a st o t =>
  (Qc a st o t ∧ ∃ L, FrameEnd st o t L mc ms ∧ ∀ q ∈ L, free q.base) ∨ ∃ q, o = .threw q ∧ vx_T XC st q t mc ms free
/-- a callee that returns or throws -/
def vx_Met (l : Launch) (y : MethodName) (ws : List Cond) (rm : Room) (Pc : Array Value → State → Prop) (Qc : Array Value → State → Outcome → State → Prop) (XC : String → State → State → Prop) (mc ms : Nat) (free : Addr → Prop) : Prop :=
  MetFree l y (headSpec ws rm) Pc (fun _ _ _ _ _ => True) (vx_Q Qc XC mc ms free)
def vx_Post (XC : String → State → State → Prop) (mc ms : Nat) (free : Addr → Prop) : Pt → Array Value → Addr → Pt → Prop := fun A a q B =>
  ∃ (g : JFrame) (mk : MethodId) (t : State) (L : List Loc) (E : String) (ce : Cell), B.U.heap = t.heap ∧ B.U.vm = t.vm ∧ XC E (A.U.calling g mk a) t ∧ t.heap[q]? = some ce ∧ ce.vm = .none ∧ A.U.vm.findClass E = some ce.cls ∧ B.locs = A.locs ++ L ∧ (∀ z ∈ L, free z.base) ∧ B.cells = A.cells + mc ∧ B.slots = A.slots + ms
def vx_Back (l : Launch) (R : Room) (p : Program) (e : Env) (below : List Frame) (s : State) (sargs : Array Value) (y : MethodName) (len W9 : Nat)
    (Pre : Pt → Array Value → Prop) (Post : Pt → Array Value → Option Value → Pt → Prop) (PostX : Pt → Array Value → Addr → Pt → Prop) : Prop :=
  ∀ (m : MethodId) (meth : Method) (c : Code) (A : Pt) (g : JFrame) (ig : Instr) (mk : MethodId) (a : Array Value),
    Stand p l e R s m sargs below meth c A.U A.locs A.cells A.slots → g.method = m → g.locals.size = c.maxLocals → decode c.code g.pc = .ok (ig, len) →
    2 * g.monitorRoom + (g.stack.map fun v => v.category).sum ≤ W9 → A.U.methodNamed? y = some mk → Pre A a →
    (∃ (v : Option Value) (B : Pt), Stand p l e R s m sargs below meth c B.U B.locs B.cells B.slots ∧ Post A a v B ∧
      Steps p.tables e below (doInvoke e (A.U.setTop g) [] mk a).1 (B.U.setTop { g with pc := g.pc + len, stack := v.toList ++ g.stack })) ∨
    (∃ (q : Addr) (B : Pt), Stand p l e R s m sargs below meth c B.U B.locs B.cells B.slots ∧ PostX A a q B ∧
      Steps p.tables e below (doInvoke e (A.U.setTop g) [] mk a).1 ((B.U.setTop g).pushFrame (.throwing q)))
section Payer
variable {l : Launch} {R : Room} {p : Program} {e : Env} {below : List Frame} {s : State} {sargs : Array Value} {y : MethodName} {len W9 : Nat}
theorem vx_back {ws : List Cond} {rm : Room} {Pc : Array Value → State → Prop} {Qc : Array Value → State → Outcome → State → Prop} {XC : String → State → State → Prop} {mc ms : Nat} {free : Addr → Prop} {bytes : ByteArray} {maxL : Nat} {ret : Option FieldType}
    (hM : vx_Met l y ws rm Pc Qc XC mc ms free) (hblind : FrameBlind Pc) (hrc : rm.cells = mc) (hrs : rm.slots = ms)
    (hframes : rm.frames + 1 ≤ R.frames) (hlocals : W9 + (maxL + 11) + rm.locals ≤ R.locals)
    (hws : ∀ w ∈ ws, ∀ a' U, s.WarmedH U.vm → w.before a' U = true) (hcode : Cond.code y bytes maxL ret ∈ ws) (hinit : ∀ a' U, s.WarmedH U.vm → (Cond.initialized y.cls).before a' U = true) :
    vx_Back l R p e below s sargs y len W9 (PreOf R mc ms Pc) (PostOf Qc mc ms free) (vx_Post XC mc ms free) := by
  intro m meth c A g ig mk a X hg hsize hdg hW hn hp
  have h1 : (headSpec ws rm).pre.before a A.U = true := atoms_intro fun w hw => hws w hw _ _ X.warmed
  have h2 : (Cond.code y bytes maxL ret).before a A.U = true := hws _ hcode _ _ X.warmed
  have h3 : (Cond.initialized y.cls).before a A.U = true := hinit _ _ X.warmed
  have h4 : A.cells + (headSpec ws rm).room.cells ≤ R.cells := by rw [show (headSpec ws rm).room.cells = mc from hrc]; exact hp.1
  have h5 : A.slots + (headSpec ws rm).room.slots ≤ R.slots := by rw [show (headSpec ws rm).room.slots = ms from hrs]; exact hp.2.1
  have hPc : Pc a (A.U.calling g mk a) := hblind _ _ _ _ hp.2.2
  obtain ⟨U, Ls, c0, s0⟩ := A
  dsimp only [Pt.U, Pt.locs, Pt.cells, Pt.slots] at h1 h2 h3 h4 h5 X hn hPc ⊢
  obtain ⟨methY, cY, hmY, hcY, -, hlY, -, -, -, -⟩ := Cond.code_spec hn h2
  obtain ⟨kY, hkY, -⟩ := className_of_methodNamed hn
  have hinitY : kY.init = .initialized := Cond.initialized_spec (findClass_of_methodNamed hn) hkY h3
  have h : At U g.method c below := by rw [hg]; exact X.here
  have hlocals9 : W9 + (maxL + 11) + (headSpec ws rm).room.locals ≤ R.locals := hlocals
  have happ : (headSpec ws rm).appliesLoose y e.platform (U.calling g mk a) = true :=
    Spec.appliesLoose_calling (g := g) h hdg hn hkY hinitY
      (X.room_calling (g := g) (R' := (headSpec ws rm).room) hsize hmY hcY hframes (by rw [hlY]; omega) h4 h5) h1
  obtain ⟨mid, hmid⟩ := h.above
  have hfr : (U.setTop g).frames = (.java g :: mid) ++ below := by rw [State.frames_setTop' g h.top, hmid]; rfl
  obtain ⟨o, s₂, hsteps, -, hend, hq⟩ := Steps.callFree hM p X.admits X.cas X.clock (acts := []) hfr happ hPc trivial
  have hq' : vx_Q Qc XC mc ms free a (U.calling g mk a) o s₂ := hq
  rw [State.frames_setTop' g h.top] at hend
  obtain ⟨g₀, hg0⟩ := Option.isSome_iff_exists.mp h.top
  obtain ⟨r, hr⟩ := State.topJava?_eq_some.mp hg0
  have hr' : (({ U with heap := s₂.heap, slotsUsed := s₂.slotsUsed } : State).setVm s₂.vm).frames = .java g₀ :: r := hr
  rcases hq' with ⟨hqc, L, hfe, hL⟩ | ⟨q, rfl, E, ce, L, hx, hce, hcv, hcl, hW₂, hsm, hL⟩
  · obtain ⟨⟨v, rfl⟩, hW₂, e2, q2, q3, q4, q5, q6⟩ := id hfe
    have e3 : s₂ = ({ (U.calling g mk a).setFrames s₂.frames with heap := s₂.heap, slotsUsed := s₂.slotsUsed } : State).setVm s₂.vm := by
      have : s₂ = ({ s₂ with vm := (U.calling g mk a).vm } : State).setVm s₂.vm := rfl
      rw [e2] at this
      exact this
    obtain ⟨c₂, i₂, len₂, hc₂, hd₂, hf₂⟩ := hend
    have hW' : U.WarmedH s₂.vm := hW₂
    have hcc : c₂ = c := by
      have h1 : s₂.code? g.method = U.code? g.method := by
        rw [State.code?_eq, State.code?_eq, hW'.alike.method?]
      exact Option.some.inj (hc₂.symm.trans (h1.trans h.code))
    subst hcc
    have hlen : len₂ = len := by rw [hdg] at hd₂; cases hd₂; rfl
    subst hlen
    have hs₂ : s₂ = (({ U with heap := s₂.heap, slotsUsed := s₂.slotsUsed } : State).setVm s₂.vm).setTop { g with pc := g.pc + len₂, stack := v.toList ++ g.stack } := by
      refine e3.trans ?_
      rw [hf₂, State.calling_eq h.top, State.setFrames_setFrames, State.setTop_of_frames _ hr', hr]
      rfl
    have hsame : U.sameButNew ({ U with heap := s₂.heap, slotsUsed := s₂.slotsUsed } : State) L mc ms := by
      refine ⟨?_, q2, q3, q4, q5, q6⟩
      obtain ⟨t, ht, -⟩ := State.frames_cons hr
      show ({ U with heap := s₂.heap, slotsUsed := s₂.slotsUsed } : State) = { U.setFrames U.frames with heap := s₂.heap, slotsUsed := s₂.slotsUsed }
      rw [State.setFrames_self ht]
    subst hg
    refine Or.inl ⟨v, ⟨(({ U with heap := s₂.heap, slotsUsed := s₂.slotsUsed } : State).setVm s₂.vm), Ls ++ L, c0 + mc, s0 + ms⟩,
      ⟨X.admits, X.cas, X.clock, X.frames, X.room, X.hears, X.method, X.code, (X.here.setHeapUsed s₂.heap s₂.slotsUsed).setVm hW'.alike, X.tail, State.WarmedH.trans X.warmed hW', X.limits, X.bytes, X.same.trans (hsame.setVm s.vm)⟩,
      ⟨g, mk, s₂, L, rfl, rfl, hqc, rfl, hL, rfl, rfl⟩, ?_⟩
    show Steps p.tables e below _ ((({ U with heap := s₂.heap, slotsUsed := s₂.slotsUsed } : State).setVm s₂.vm).setTop { g with pc := g.pc + len₂, stack := v.toList ++ g.stack })
    rw [← hs₂]
    exact hsteps
  · obtain ⟨e2, q2, q3, q4, q5, q6⟩ := id hsm
    have e3 : s₂ = ({ (U.calling g mk a).setFrames s₂.frames with heap := s₂.heap, slotsUsed := s₂.slotsUsed } : State).setVm s₂.vm := by
      have : s₂ = ({ s₂ with vm := (U.calling g mk a).vm } : State).setVm s₂.vm := rfl
      rw [e2] at this
      exact this
    have hf₂ : s₂.frames = .throwing q :: .java g :: U.frames.tail := hend
    have hW' : U.WarmedH s₂.vm := hW₂
    have hs₂ : s₂ = ((({ U with heap := s₂.heap, slotsUsed := s₂.slotsUsed } : State).setVm s₂.vm).setTop g).pushFrame (.throwing q) := by
      refine e3.trans ?_
      rw [hf₂, State.calling_eq h.top, State.setFrames_setFrames, State.pushFrame, State.frames_setTop _ hr', State.setTop_of_frames _ hr', State.setFrames_setFrames, hr]
      rfl
    have hsame : U.sameButNew ({ U with heap := s₂.heap, slotsUsed := s₂.slotsUsed } : State) L mc ms := by
      refine ⟨?_, q2, q3, q4, q5, q6⟩
      obtain ⟨t, ht, -⟩ := State.frames_cons hr
      show ({ U with heap := s₂.heap, slotsUsed := s₂.slotsUsed } : State) = { U.setFrames U.frames with heap := s₂.heap, slotsUsed := s₂.slotsUsed }
      rw [State.setFrames_self ht]
    subst hg
    refine Or.inr ⟨q, ⟨(({ U with heap := s₂.heap, slotsUsed := s₂.slotsUsed } : State).setVm s₂.vm), Ls ++ L, c0 + mc, s0 + ms⟩,
      ⟨X.admits, X.cas, X.clock, X.frames, X.room, X.hears, X.method, X.code, (X.here.setHeapUsed s₂.heap s₂.slotsUsed).setVm hW'.alike, X.tail, State.WarmedH.trans X.warmed hW', X.limits, X.bytes, X.same.trans (hsame.setVm s.vm)⟩,
      ⟨g, mk, s₂, L, E, ce, rfl, rfl, hx, hce, hcv, hcl, rfl, hL, rfl, rfl⟩, ?_⟩
    show Steps p.tables e below _ (((({ U with heap := s₂.heap, slotsUsed := s₂.slotsUsed } : State).setVm s₂.vm).setTop g).pushFrame (.throwing q))
    rw [← hs₂]
    exact hsteps
end Payer
section Calls
variable {p : Program} {l : Launch} {e : Env} {R : Room} {s : State} {m : MethodId} {args : Array Value} {below : List Frame} {meth : Method} {c : Code} {T : State} {locs : List Loc} {cells slots : Nat}
theorem vx_callV (X : Stand p l e R s m args below meth c T locs cells slots) (hexec : p.tables.exec = Jvm.exec) {own C : String} {index : Nat} {y : MethodName} {bytes : ByteArray} {maxL : Nat} {ret : Option FieldType}
    (hown : s.vm.findClass own = some m.cls) (hlink : (Cond.methodLink own index y).before args s = true) (hinst : (Cond.instanceMethod y).before args s = true) (hsel : (Cond.selects C y y).before args s = true)
    (hcode : (Cond.code y bytes maxL ret).before args s = true) (hy : y.cls ≠ "java/lang/invoke/MethodHandle" ∧ y.cls ≠ "java/lang/invoke/VarHandle")
    {W9 : Nat} {Pre : Pt → Array Value → Prop} {Post : Pt → Array Value → Option Value → Pt → Prop} {PostX : Pt → Array Value → Addr → Pt → Prop} (hK : vx_Back l R p e below s args y 3 W9 Pre Post PostX)
    {b : Addr} {cellB : Cell} (hcell : T.heap[b]? = some cellB) (hobj : cellB.vm.isStatics = false) (hcls : s.vm.findClass C = some cellB.cls)
    {g : JFrame} (hg : g.method = m) (hsize : g.locals.size = c.maxLocals) {argsL rest : List Value} (hlen : ∀ sig, parseMethodDescriptor y.desc = some sig → argsL.length = sig.parameters.length)
    (hstack : g.stack = argsL.reverse ++ .ref b :: rest) (hW : 2 * g.monitorRoom + (rest.map fun v => v.category).sum ≤ W9) (hdg : decode c.code g.pc = .ok (.invokevirtual index, 3))
    (hpre : ∀ vm₁, s.WarmedH vm₁ → Pre ⟨T.setVm vm₁, locs, cells, slots⟩ (Value.ref b :: argsL).toArray) :
    (∃ (v : Option Value) (vm₁ : Vm) (B : Pt), s.WarmedH vm₁ ∧ Stand p l e R s m args below meth c B.U B.locs B.cells B.slots ∧ Post ⟨T.setVm vm₁, locs, cells, slots⟩ (Value.ref b :: argsL).toArray v B ∧
      ∀ target, Steps p.tables e below (B.U.setTop { g with pc := g.pc + 3, stack := v.toList ++ rest }) target → Steps p.tables e below (T.setTop g) target) ∨
    (∃ (q : Addr) (vm₁ : Vm) (B : Pt), s.WarmedH vm₁ ∧ Stand p l e R s m args below meth c B.U B.locs B.cells B.slots ∧ PostX ⟨T.setVm vm₁, locs, cells, slots⟩ (Value.ref b :: argsL).toArray q B ∧
      Steps p.tables e below (T.setTop g) ((B.U.setTop { g with stack := rest }).pushFrame (.throwing q))) := by
  obtain ⟨mk, methM, hnamed, hmethM, hstM, habM⟩ := Cond.instanceMethod_spec hinst
  obtain ⟨methM', cM, hmethM', -, -, -, -, -, -, hsigM⟩ := Cond.code_spec hnamed hcode
  cases hmethM.symm.trans hmethM'
  obtain ⟨c2, r2, m2, q1, q2, q3, q4, kP, hkP, hkPi⟩ := Cond.selects_spec hsel
  cases hcls.symm.trans q1
  cases (State.methodFound?_of_named hnamed hy).symm.trans q2
  cases hnamed.symm.trans q3
  have hselP : selectMethod e.platform s.vm cellB.cls mk = .method mk := by rw [Launch.admits_selectMethod X.admits]; exact q4
  obtain ⟨vm₁, X₁, hstep₁⟩ := X.invokevirtual hexec hown hlink hnamed hmethM hstM hkP hkPi hy (a := b) (cell := cellB) hcell
    (fun z h => by rw [h] at hobj; cases hobj) hselP hmethM habM hkP hkPi (g := g) hg (argsL := argsL) (rest := rest) (hlen _ hsigM) hstack hdg
  rcases hK m meth c ⟨T.setVm vm₁, locs, cells, slots⟩ { g with stack := rest } (.invokevirtual index) mk (Value.ref b :: argsL).toArray X₁ hg hsize hdg hW (X₁.named hnamed) (hpre vm₁ X₁.warmed) with ⟨v, B, X', hpost, hsteps⟩ | ⟨q, B, X', hpost, hsteps⟩
  · exact Or.inl ⟨v, vm₁, B, X₁.warmed, X', hpost, fun target h => hstep₁ _ fun acts => by rw [doInvoke_state]; exact hsteps.trans h⟩
  · exact Or.inr ⟨q, vm₁, B, X₁.warmed, X', hpost, hstep₁ _ fun acts => by rw [doInvoke_state]; exact hsteps⟩
theorem vx_callS (X : Stand p l e R s m args below meth c T locs cells slots) (hexec : p.tables.exec = Jvm.exec) {own : String} {index : Nat} {y : MethodName} {bytes : ByteArray} {maxL : Nat} {ret : Option FieldType}
    (hown : s.vm.findClass own = some m.cls) (hlink : (Cond.methodLink own index y).before args s = true) (hstat : (Cond.static y).before args s = true) (hinit : (Cond.initialized y.cls).before args s = true)
    (hcode : (Cond.code y bytes maxL ret).before args s = true) (hy : y.cls ≠ "java/lang/invoke/MethodHandle" ∧ y.cls ≠ "java/lang/invoke/VarHandle")
    {W9 : Nat} {Pre : Pt → Array Value → Prop} {Post : Pt → Array Value → Option Value → Pt → Prop} {PostX : Pt → Array Value → Addr → Pt → Prop} (hK : vx_Back l R p e below s args y 3 W9 Pre Post PostX)
    {g : JFrame} (hg : g.method = m) (hsize : g.locals.size = c.maxLocals) {argsL rest : List Value} (hlen : ∀ sig, parseMethodDescriptor y.desc = some sig → argsL.length = sig.parameters.length)
    (hstack : g.stack = argsL.reverse ++ rest) (hW : 2 * g.monitorRoom + (rest.map fun v => v.category).sum ≤ W9) (hdg : decode c.code g.pc = .ok (.invokestatic index, 3))
    (hpre : ∀ vm₁, s.WarmedH vm₁ → Pre ⟨T.setVm vm₁, locs, cells, slots⟩ argsL.toArray) :
    (∃ (v : Option Value) (vm₁ : Vm) (B : Pt), s.WarmedH vm₁ ∧ Stand p l e R s m args below meth c B.U B.locs B.cells B.slots ∧ Post ⟨T.setVm vm₁, locs, cells, slots⟩ argsL.toArray v B ∧
      ∀ target, Steps p.tables e below (B.U.setTop { g with pc := g.pc + 3, stack := v.toList ++ rest }) target → Steps p.tables e below (T.setTop g) target) ∨
    (∃ (q : Addr) (vm₁ : Vm) (B : Pt), s.WarmedH vm₁ ∧ Stand p l e R s m args below meth c B.U B.locs B.cells B.slots ∧ PostX ⟨T.setVm vm₁, locs, cells, slots⟩ argsL.toArray q B ∧
      Steps p.tables e below (T.setTop g) ((B.U.setTop { g with stack := rest }).pushFrame (.throwing q))) := by
  obtain ⟨mk, hnamed⟩ := Cond.code_named hcode
  obtain ⟨methM, cM, hmethM, -, -, -, -, -, -, hsigM⟩ := Cond.code_spec hnamed hcode
  have hstatic : methM.isStatic = true := Cond.static_spec hnamed hmethM hstat
  obtain ⟨kP, hkP, -⟩ := className_of_methodNamed hnamed
  have hinitP : kP.init = .initialized := Cond.initialized_spec (findClass_of_methodNamed hnamed) hkP hinit
  obtain ⟨vm₁, X₁, hstep₁⟩ := X.invokestatic hexec hown hlink hnamed hmethM hstatic hkP hinitP hy (g := g) hg (argsL := argsL) (rest := rest) (hlen _ hsigM) hstack hdg
  rcases hK m meth c ⟨T.setVm vm₁, locs, cells, slots⟩ { g with stack := rest } (.invokestatic index) mk argsL.toArray X₁ hg hsize hdg hW (X₁.named hnamed) (hpre vm₁ X₁.warmed) with ⟨v, B, X', hpost, hsteps⟩ | ⟨q, B, X', hpost, hsteps⟩
  · exact Or.inl ⟨v, vm₁, B, X₁.warmed, X', hpost, fun target h => hstep₁ _ fun acts => by rw [doInvoke_state]; exact hsteps.trans h⟩
  · exact Or.inr ⟨q, vm₁, B, X₁.warmed, X', hpost, hstep₁ _ fun acts => by rw [doInvoke_state]; exact hsteps⟩
end Calls
theorem vx_cls {s : State} {T : State} {vm₁ : Vm} {E : String} {k : ClassId} (hW : s.WarmedH vm₁) (h : (T.setVm vm₁).vm.findClass E = some k) : s.vm.findClass E = some k := by
  have h1 : vm₁.findClass E = some k := h
  rw [hW.alike.findClass] at h1
  exact h1
/-- the method's frame g, with q thrown over it -/
def vx_W (p : Program) (l : Launch) (e : Env) (R : Room) (s : State) (m : MethodId) (args : Array Value) (below : List Frame) (meth : Method) (c : Code) (H : Heap) (locs : List Loc) (cells slots : Nat) (Q : State → Prop) (g : JFrame) (q : Addr) : Prop :=
  ∀ T : State, T.heap = H → Stand p l e R s m args below meth c T locs cells slots → ∃ t, Steps p.tables e below ((T.setTop g).pushFrame (.throwing q)) t ∧ Q t
def vx_Run (p : Program) (l : Launch) (e : Env) (R : Room) (s : State) (m : MethodId) (args : Array Value) (below : List Frame) (meth : Method) (c : Code) (H : Heap) (locs : List Loc) (cells slots mc ms : Nat) (g : JFrame) (rest : List Value) (Qa : State → Outcome → State → Prop) (XC : String → State → State → Prop) (free : Addr → Prop) : Prop :=
  ∀ T : State, T.heap = H → Stand p l e R s m args below meth c T locs cells slots →
    (∃ (v : Option Value) (st₀ t T' : State) (L : List Loc), st₀.heap = H ∧ Stand p l e R s m args below meth c T' (locs ++ L) (cells + mc) (slots + ms) ∧ (∀ q ∈ L, free q.base) ∧ T'.heap = t.heap ∧ T'.vm = t.vm ∧ Qa st₀ (.returned v) t ∧
      Goes p e below T g T' { g with pc := g.pc + 3, stack := v.toList ++ rest }) ∨
    (∃ (q : Addr) (st₀ t T' : State) (L : List Loc) (E : String) (ce : Cell), st₀.heap = H ∧ Stand p l e R s m args below meth c T' (locs ++ L) (cells + mc) (slots + ms) ∧ (∀ z ∈ L, free z.base) ∧ T'.heap = t.heap ∧ T'.vm = t.vm ∧ XC E st₀ t ∧ t.heap[q]? = some ce ∧ ce.vm = .none ∧ s.vm.findClass E = some ce.cls ∧
      Steps p.tables e below (T.setTop g) ((T'.setTop { g with stack := rest }).pushFrame (.throwing q)))
def vx_X {S : Type} (px : S → Prop) (B : String → S → State → Prop) (A : Nat → Prop) : String → State → State → Prop := fun E st t => ∃ u : S, px u ∧ B E u t ∧ va_F A st t
section Runs
variable {p : Program} {l : Launch} {e : Env} {R : Room} {s : State} {m : MethodId} {args : Array Value} {below : List Frame} {meth : Method} {c : Code} {H : Heap} {locs : List Loc} {cells slots : Nat}
variable {y : MethodName} {bytes cc : ByteArray} {maxL nL mc ms n index : Nat} {ret : Option FieldType} {ws : List Cond} {rm : Room} {Pc : Array Value → State → Prop} {Qc : Array Value → State → Outcome → State → Prop} {XC : String → State → State → Prop} {free : Addr → Prop} {Ts : List Cond} {own C : String} {b : Addr} {As rest : List Value} {g : JFrame}
theorem vx_callBack (cb : CallB R s args own index y bytes maxL ret ws rm mc ms n) (hM : vx_Met l y ws rm Pc Qc XC mc ms free) (hbl : FrameBlind Pc) : vx_Back l R p e below s args y 3 8 (PreOf R mc ms Pc) (PostOf Qc mc ms free) (vx_Post XC mc ms free) := by
  obtain ⟨hrc, hrs, hfr, hlo, hws, hcw, -, hini, -⟩ := cb
  exact vx_back (bytes := bytes) (maxL := maxL) (ret := ret) hM hbl hrc hrs hfr hlo hws hcw (fun a' U hW => word_at hW (Or.inl (by first | rfl | simp [Cond.onTables, Cond.keeps, Cond.steady])) hini)
theorem vx_runV (S : CallFix p m c cc nL s args Ts own) (hM : vx_Met l y ws rm Pc Qc XC mc ms free) (cw : CallW R s args own C index y bytes maxL ret ws rm mc ms n) (hp : PreV s H C b Pc As)
    (hg : g.method = m) (hn : As.length = n) (hsize : g.locals.size = nL) (hstack : g.stack = As.reverse ++ .ref b :: rest) (hW : 2 * g.monitorRoom + (rest.map fun v => v.category).sum ≤ 8) (hdg : decode cc g.pc = .ok (.invokevirtual index, 3)) (hf : cells + mc ≤ R.cells ∧ slots + ms ≤ R.slots) :
    vx_Run p l e R s m args below meth c H locs cells slots mc ms g rest (Qc (Value.ref b :: As).toArray) XC free := by
  have hK : vx_Back l R p e below s args y 3 8 (PreOf R mc ms Pc) (PostOf Qc mc ms free) (vx_Post XC mc ms free) := vx_callBack cw.1 hM hp.1
  obtain ⟨⟨-, -, -, -, -, -, hcode, -, hy, hlen, hl⟩, hin, hse⟩ := cw
  obtain ⟨hx, hb, hml, ho, -⟩ := S
  obtain ⟨-, ⟨cellB, hcB, hoB, hclB⟩, hPc⟩ := hp
  intro T hT X
  rcases vx_callV X hx (C := C) (bytes := bytes) (maxL := maxL) (ret := ret) ho hl hin hse hcode hy hK (by rw [hT]; exact hcB) hoB hclB hg (hsize.trans hml.symm) (argsL := As) (rest := rest) (fun sig h => hn.trans (hlen sig h)) hstack hW (by rw [hb]; exact hdg)
    (fun vm₁ hW₁ => ⟨hf.1, hf.2, hPc (T.setVm vm₁) hT hW₁⟩) with ⟨v, vm₁, ⟨U', l2, c2, s2⟩, hW₁, X', ⟨g', mk, t, L, e1, e2, hq, h1, hL, h2, h3⟩, st⟩ | ⟨q, vm₁, ⟨U', l2, c2, s2⟩, hW₁, X', ⟨g', mk, t, L, E, ce, e1, e2, hq, hce, hcv, hcl, h1, hL, h2, h3⟩, st⟩
  · dsimp only [Pt.U, Pt.locs, Pt.cells, Pt.slots] at X' e1 e2 h1 h2 h3 st
    subst h1; subst h2; subst h3
    exact Or.inl ⟨v, (T.setVm vm₁).calling g' mk (Value.ref b :: As).toArray, t, U', L, hT, X', hL, e1, e2, hq, st⟩
  · dsimp only [Pt.U, Pt.locs, Pt.cells, Pt.slots] at X' e1 e2 h1 h2 h3 st hcl
    subst h1; subst h2; subst h3
    exact Or.inr ⟨q, (T.setVm vm₁).calling g' mk (Value.ref b :: As).toArray, t, U', L, E, ce, hT, X', hL, e1, e2, hq, hce, hcv, vx_cls hW₁ hcl, st⟩
theorem vx_runS (S : CallFix p m c cc nL s args Ts own) (hM : vx_Met l y ws rm Pc Qc XC mc ms free) (cw : CallB R s args own index y bytes maxL ret ws rm mc ms n ∧ (Cond.static y).before args s = true) (hp : PreS s H Pc As)
    (hg : g.method = m) (hn : As.length = n) (hsize : g.locals.size = nL) (hstack : g.stack = As.reverse ++ rest) (hW : 2 * g.monitorRoom + (rest.map fun v => v.category).sum ≤ 8) (hdg : decode cc g.pc = .ok (.invokestatic index, 3)) (hf : cells + mc ≤ R.cells ∧ slots + ms ≤ R.slots) :
    vx_Run p l e R s m args below meth c H locs cells slots mc ms g rest (Qc As.toArray) XC free := by
  have hK : vx_Back l R p e below s args y 3 8 (PreOf R mc ms Pc) (PostOf Qc mc ms free) (vx_Post XC mc ms free) := vx_callBack cw.1 hM hp.1
  obtain ⟨⟨-, -, -, -, -, -, hcode, hini, hy, hlen, hl⟩, hstt⟩ := cw
  obtain ⟨hx, hb, hml, ho, -⟩ := S
  intro T hT X
  rcases vx_callS X hx (bytes := bytes) (maxL := maxL) (ret := ret) ho hl hstt hini hcode hy hK hg (hsize.trans hml.symm) (argsL := As) (rest := rest) (fun sig h => hn.trans (hlen sig h)) hstack hW (by rw [hb]; exact hdg)
    (fun vm₁ hW₁ => ⟨hf.1, hf.2, hp.2 (T.setVm vm₁) hT hW₁⟩) with ⟨v, vm₁, ⟨U', l2, c2, s2⟩, hW₁, X', ⟨g', mk, t, L, e1, e2, hq, h1, hL, h2, h3⟩, st⟩ | ⟨q, vm₁, ⟨U', l2, c2, s2⟩, hW₁, X', ⟨g', mk, t, L, E, ce, e1, e2, hq, hce, hcv, hcl, h1, hL, h2, h3⟩, st⟩
  · dsimp only [Pt.U, Pt.locs, Pt.cells, Pt.slots] at X' e1 e2 h1 h2 h3 st
    subst h1; subst h2; subst h3
    exact Or.inl ⟨v, (T.setVm vm₁).calling g' mk As.toArray, t, U', L, hT, X', hL, e1, e2, hq, st⟩
  · dsimp only [Pt.U, Pt.locs, Pt.cells, Pt.slots] at X' e1 e2 h1 h2 h3 st hcl
    subst h1; subst h2; subst h3
    exact Or.inr ⟨q, (T.setVm vm₁).calling g' mk As.toArray, t, U', L, E, ce, hT, X', hL, e1, e2, hq, hce, hcv, vx_cls hW₁ hcl, st⟩
end Runs
section Rows
variable {p : Program} {l : Launch} {e : Env} {R : Room} {s : State} {m : MethodId} {args : Array Value} {below : List Frame} {meth : Method} {c : Code} {H : Heap} {locs : List Loc} {cells slots : Nat} {Q : State → Prop}
variable {mc ms : Nat} {free : Addr → Prop} {A0 A1 : Nat → Prop} {H0 : Heap} {a : Array Value} {pc : Nat} {ls : Array Slot} {st0 rest : List Value}
theorem vx_keep {st₀ t T' : State} {L : List Loc} (h0 : st₀.heap = H) (e1 : T'.heap = t.heap) (hS : va_S A0 H0 H locs) (hA : ∀ q, q < H.size → A1 q → A0 q) (hf : ∀ q, free q → A0 q) (hL : ∀ q ∈ L, free q.base) (hF : va_F A1 st₀ t) :
    H.size ≤ T'.heap.size ∧ (∀ q : Nat, q < H.size → ¬ A1 q → T'.heap[q]? = H[q]?) ∧ va_S A0 H0 T'.heap (locs ++ L) := by
  obtain ⟨hz, hk⟩ := hF
  rw [h0] at hz hk
  exact ⟨by rw [e1]; exact hz, fun q h1 h2 => by rw [e1]; exact hk q h1 h2,
    ⟨Nat.le_trans hS.1 (by rw [e1]; exact hz), fun q h1 h2 => by rw [e1, hk q (Nat.lt_of_lt_of_le h1 hS.1) (fun z => h2 (hA q (Nat.lt_of_lt_of_le h1 hS.1) z))]; exact hS.2.1 q h1 h2, fun q hq => by
      rcases List.mem_append.mp hq with h | h
      · exact hS.2.2 q h
      · exact hf _ (hL q h)⟩⟩
theorem vx_calli {S SX : Type} {post : Int32 → S → Prop} {px : SX → Prop} {B : S → State → Prop} {BX : String → SX → State → Prop} {AX : Nat → Prop} (hr : vx_Run p l e R s m args below meth c H locs cells slots mc ms (F0 m pc ls st0) rest (va_Qi post B A1 a) (vx_X px BX AX) free) (hS : va_S A0 H0 H locs) (hA : ∀ q, q < H.size → A1 q → A0 q) (hf : ∀ q, free q → A0 q) (hAX : ∀ q, q < H.size → AX q → A0 q)
    (kx : ∀ (E : String) (ce : Cell) (q9 : Addr) (u : SX) (t : State) (H1 : Heap) (locs1 : List Loc), t.heap = H1 → s.vm.Alike t.vm → px u → BX E u t → H.size ≤ H1.size → (∀ q : Nat, q < H.size → ¬ AX q → H1[q]? = H[q]?) → va_S A0 H0 H1 locs1 → H1[q9]? = some ce → ce.vm = .none → s.vm.findClass E = some ce.cls → vx_W p l e R s m args below meth c H1 locs1 (cells + mc) (slots + ms) Q (F0 m pc ls rest) q9)
    (kk : ∀ (r : Int32) (u : S) (t : State) (H1 : Heap) (locs1 : List Loc), t.heap = H1 → s.vm.Alike t.vm → post r u → B u t → H.size ≤ H1.size → (∀ q : Nat, q < H.size → ¬ A1 q → H1[q]? = H[q]?) → va_S A0 H0 H1 locs1 → W p l e R s m args below meth c H1 locs1 (cells + mc) (slots + ms) Q (F0 m (pc + 3) ls (.int r :: rest))) : W p l e R s m args below meth c H locs cells slots Q (F0 m pc ls st0) := by
  intro T hT X
  rcases hr T hT X with ⟨v, st₀, t, T', L, h0, X', hL, e1, e2, ⟨⟨r, u, hv, hp, hb⟩, hF⟩, st⟩ | ⟨q, st₀, t, T', L, E, ce, h0, X', hL, e1, e2, ⟨u, hp, hb, hF⟩, hce, hcv, hcl, st⟩
  · cases hv
    obtain ⟨k1, k2, k3⟩ := vx_keep h0 e1 hS hA hf hL hF
    obtain ⟨t2, a1, b1⟩ := kk r u t T'.heap (locs ++ L) e1.symm (by rw [← e2]; exact X'.warmed.alike) hp hb k1 k2 k3 T' rfl X'
    exact ⟨t2, st t2 a1, b1⟩
  · obtain ⟨k1, k2, k3⟩ := vx_keep h0 e1 hS hAX hf hL hF
    obtain ⟨t2, a1, b1⟩ := kx E ce q u t T'.heap (locs ++ L) e1.symm (by rw [← e2]; exact X'.warmed.alike) hp hb k1 k2 k3 (by rw [e1]; exact hce) hcv hcl T' rfl X'
    exact ⟨t2, st.trans a1, b1⟩
theorem vx_calll {S SX : Type} {post : Int64 → S → Prop} {px : SX → Prop} {B : S → State → Prop} {BX : String → SX → State → Prop} {AX : Nat → Prop} (hr : vx_Run p l e R s m args below meth c H locs cells slots mc ms (F0 m pc ls st0) rest (va_Ql post B A1 a) (vx_X px BX AX) free) (hS : va_S A0 H0 H locs) (hA : ∀ q, q < H.size → A1 q → A0 q) (hf : ∀ q, free q → A0 q) (hAX : ∀ q, q < H.size → AX q → A0 q)
    (kx : ∀ (E : String) (ce : Cell) (q9 : Addr) (u : SX) (t : State) (H1 : Heap) (locs1 : List Loc), t.heap = H1 → s.vm.Alike t.vm → px u → BX E u t → H.size ≤ H1.size → (∀ q : Nat, q < H.size → ¬ AX q → H1[q]? = H[q]?) → va_S A0 H0 H1 locs1 → H1[q9]? = some ce → ce.vm = .none → s.vm.findClass E = some ce.cls → vx_W p l e R s m args below meth c H1 locs1 (cells + mc) (slots + ms) Q (F0 m pc ls rest) q9)
    (kk : ∀ (r : Int64) (u : S) (t : State) (H1 : Heap) (locs1 : List Loc), t.heap = H1 → s.vm.Alike t.vm → post r u → B u t → H.size ≤ H1.size → (∀ q : Nat, q < H.size → ¬ A1 q → H1[q]? = H[q]?) → va_S A0 H0 H1 locs1 → W p l e R s m args below meth c H1 locs1 (cells + mc) (slots + ms) Q (F0 m (pc + 3) ls (.long r :: rest))) : W p l e R s m args below meth c H locs cells slots Q (F0 m pc ls st0) := by
  intro T hT X
  rcases hr T hT X with ⟨v, st₀, t, T', L, h0, X', hL, e1, e2, ⟨⟨r, u, hv, hp, hb⟩, hF⟩, st⟩ | ⟨q, st₀, t, T', L, E, ce, h0, X', hL, e1, e2, ⟨u, hp, hb, hF⟩, hce, hcv, hcl, st⟩
  · cases hv
    obtain ⟨k1, k2, k3⟩ := vx_keep h0 e1 hS hA hf hL hF
    obtain ⟨t2, a1, b1⟩ := kk r u t T'.heap (locs ++ L) e1.symm (by rw [← e2]; exact X'.warmed.alike) hp hb k1 k2 k3 T' rfl X'
    exact ⟨t2, st t2 a1, b1⟩
  · obtain ⟨k1, k2, k3⟩ := vx_keep h0 e1 hS hAX hf hL hF
    obtain ⟨t2, a1, b1⟩ := kx E ce q u t T'.heap (locs ++ L) e1.symm (by rw [← e2]; exact X'.warmed.alike) hp hb k1 k2 k3 (by rw [e1]; exact hce) hcv hcl T' rfl X'
    exact ⟨t2, st.trans a1, b1⟩
theorem vx_callf {S SX : Type} {post : UInt32 → S → Prop} {px : SX → Prop} {B : S → State → Prop} {BX : String → SX → State → Prop} {AX : Nat → Prop} (hr : vx_Run p l e R s m args below meth c H locs cells slots mc ms (F0 m pc ls st0) rest (va_Qf post B A1 a) (vx_X px BX AX) free) (hS : va_S A0 H0 H locs) (hA : ∀ q, q < H.size → A1 q → A0 q) (hf : ∀ q, free q → A0 q) (hAX : ∀ q, q < H.size → AX q → A0 q)
    (kx : ∀ (E : String) (ce : Cell) (q9 : Addr) (u : SX) (t : State) (H1 : Heap) (locs1 : List Loc), t.heap = H1 → s.vm.Alike t.vm → px u → BX E u t → H.size ≤ H1.size → (∀ q : Nat, q < H.size → ¬ AX q → H1[q]? = H[q]?) → va_S A0 H0 H1 locs1 → H1[q9]? = some ce → ce.vm = .none → s.vm.findClass E = some ce.cls → vx_W p l e R s m args below meth c H1 locs1 (cells + mc) (slots + ms) Q (F0 m pc ls rest) q9)
    (kk : ∀ (r : UInt32) (u : S) (t : State) (H1 : Heap) (locs1 : List Loc), t.heap = H1 → s.vm.Alike t.vm → post r u → B u t → H.size ≤ H1.size → (∀ q : Nat, q < H.size → ¬ A1 q → H1[q]? = H[q]?) → va_S A0 H0 H1 locs1 → W p l e R s m args below meth c H1 locs1 (cells + mc) (slots + ms) Q (F0 m (pc + 3) ls (.float r :: rest))) : W p l e R s m args below meth c H locs cells slots Q (F0 m pc ls st0) := by
  intro T hT X
  rcases hr T hT X with ⟨v, st₀, t, T', L, h0, X', hL, e1, e2, ⟨⟨r, u, hv, hp, hb⟩, hF⟩, st⟩ | ⟨q, st₀, t, T', L, E, ce, h0, X', hL, e1, e2, ⟨u, hp, hb, hF⟩, hce, hcv, hcl, st⟩
  · cases hv
    obtain ⟨k1, k2, k3⟩ := vx_keep h0 e1 hS hA hf hL hF
    obtain ⟨t2, a1, b1⟩ := kk r u t T'.heap (locs ++ L) e1.symm (by rw [← e2]; exact X'.warmed.alike) hp hb k1 k2 k3 T' rfl X'
    exact ⟨t2, st t2 a1, b1⟩
  · obtain ⟨k1, k2, k3⟩ := vx_keep h0 e1 hS hAX hf hL hF
    obtain ⟨t2, a1, b1⟩ := kx E ce q u t T'.heap (locs ++ L) e1.symm (by rw [← e2]; exact X'.warmed.alike) hp hb k1 k2 k3 (by rw [e1]; exact hce) hcv hcl T' rfl X'
    exact ⟨t2, st.trans a1, b1⟩
theorem vx_calld {S SX : Type} {post : UInt64 → S → Prop} {px : SX → Prop} {B : S → State → Prop} {BX : String → SX → State → Prop} {AX : Nat → Prop} (hr : vx_Run p l e R s m args below meth c H locs cells slots mc ms (F0 m pc ls st0) rest (va_Qd post B A1 a) (vx_X px BX AX) free) (hS : va_S A0 H0 H locs) (hA : ∀ q, q < H.size → A1 q → A0 q) (hf : ∀ q, free q → A0 q) (hAX : ∀ q, q < H.size → AX q → A0 q)
    (kx : ∀ (E : String) (ce : Cell) (q9 : Addr) (u : SX) (t : State) (H1 : Heap) (locs1 : List Loc), t.heap = H1 → s.vm.Alike t.vm → px u → BX E u t → H.size ≤ H1.size → (∀ q : Nat, q < H.size → ¬ AX q → H1[q]? = H[q]?) → va_S A0 H0 H1 locs1 → H1[q9]? = some ce → ce.vm = .none → s.vm.findClass E = some ce.cls → vx_W p l e R s m args below meth c H1 locs1 (cells + mc) (slots + ms) Q (F0 m pc ls rest) q9)
    (kk : ∀ (r : UInt64) (u : S) (t : State) (H1 : Heap) (locs1 : List Loc), t.heap = H1 → s.vm.Alike t.vm → post r u → B u t → H.size ≤ H1.size → (∀ q : Nat, q < H.size → ¬ A1 q → H1[q]? = H[q]?) → va_S A0 H0 H1 locs1 → W p l e R s m args below meth c H1 locs1 (cells + mc) (slots + ms) Q (F0 m (pc + 3) ls (.double r :: rest))) : W p l e R s m args below meth c H locs cells slots Q (F0 m pc ls st0) := by
  intro T hT X
  rcases hr T hT X with ⟨v, st₀, t, T', L, h0, X', hL, e1, e2, ⟨⟨r, u, hv, hp, hb⟩, hF⟩, st⟩ | ⟨q, st₀, t, T', L, E, ce, h0, X', hL, e1, e2, ⟨u, hp, hb, hF⟩, hce, hcv, hcl, st⟩
  · cases hv
    obtain ⟨k1, k2, k3⟩ := vx_keep h0 e1 hS hA hf hL hF
    obtain ⟨t2, a1, b1⟩ := kk r u t T'.heap (locs ++ L) e1.symm (by rw [← e2]; exact X'.warmed.alike) hp hb k1 k2 k3 T' rfl X'
    exact ⟨t2, st t2 a1, b1⟩
  · obtain ⟨k1, k2, k3⟩ := vx_keep h0 e1 hS hAX hf hL hF
    obtain ⟨t2, a1, b1⟩ := kx E ce q u t T'.heap (locs ++ L) e1.symm (by rw [← e2]; exact X'.warmed.alike) hp hb k1 k2 k3 (by rw [e1]; exact hce) hcv hcl T' rfl X'
    exact ⟨t2, st.trans a1, b1⟩
theorem vx_callv {S SX : Type} {post : S → Prop} {px : SX → Prop} {B : S → State → Prop} {BX : String → SX → State → Prop} {AX : Nat → Prop} (hr : vx_Run p l e R s m args below meth c H locs cells slots mc ms (F0 m pc ls st0) rest (va_Qv post B A1 a) (vx_X px BX AX) free) (hS : va_S A0 H0 H locs) (hA : ∀ q, q < H.size → A1 q → A0 q) (hf : ∀ q, free q → A0 q) (hAX : ∀ q, q < H.size → AX q → A0 q)
    (kx : ∀ (E : String) (ce : Cell) (q9 : Addr) (u : SX) (t : State) (H1 : Heap) (locs1 : List Loc), t.heap = H1 → s.vm.Alike t.vm → px u → BX E u t → H.size ≤ H1.size → (∀ q : Nat, q < H.size → ¬ AX q → H1[q]? = H[q]?) → va_S A0 H0 H1 locs1 → H1[q9]? = some ce → ce.vm = .none → s.vm.findClass E = some ce.cls → vx_W p l e R s m args below meth c H1 locs1 (cells + mc) (slots + ms) Q (F0 m pc ls rest) q9)
    (kk : ∀ (u : S) (t : State) (H1 : Heap) (locs1 : List Loc), t.heap = H1 → s.vm.Alike t.vm → post u → B u t → H.size ≤ H1.size → (∀ q : Nat, q < H.size → ¬ A1 q → H1[q]? = H[q]?) → va_S A0 H0 H1 locs1 → W p l e R s m args below meth c H1 locs1 (cells + mc) (slots + ms) Q (F0 m (pc + 3) ls (rest))) : W p l e R s m args below meth c H locs cells slots Q (F0 m pc ls st0) := by
  intro T hT X
  rcases hr T hT X with ⟨v, st₀, t, T', L, h0, X', hL, e1, e2, ⟨⟨u, hv, hp, hb⟩, hF⟩, st⟩ | ⟨q, st₀, t, T', L, E, ce, h0, X', hL, e1, e2, ⟨u, hp, hb, hF⟩, hce, hcv, hcl, st⟩
  · cases hv
    obtain ⟨k1, k2, k3⟩ := vx_keep h0 e1 hS hA hf hL hF
    obtain ⟨t2, a1, b1⟩ := kk u t T'.heap (locs ++ L) e1.symm (by rw [← e2]; exact X'.warmed.alike) hp hb k1 k2 k3 T' rfl X'
    exact ⟨t2, st t2 a1, b1⟩
  · obtain ⟨k1, k2, k3⟩ := vx_keep h0 e1 hS hAX hf hL hF
    obtain ⟨t2, a1, b1⟩ := kx E ce q u t T'.heap (locs ++ L) e1.symm (by rw [← e2]; exact X'.warmed.alike) hp hb k1 k2 k3 (by rw [e1]; exact hce) hcv hcl T' rfl X'
    exact ⟨t2, st.trans a1, b1⟩
/-- caught by the row x of this method's table; the rows ahead don't take it -/
theorem vx_catch {own name : String} {E : String} {ce : Cell} {q : Addr} (hown : s.vm.findClass own = some m.cls) (pre : List ExceptionTableEntry) (x : ExceptionTableEntry) (suf : List ExceptionTableEntry) (hsplit : c.exceptionTable.toList = pre ++ x :: suf)
    (hpass : ∀ z ∈ pre, covers z pc = false ∨ (z.catchType ≠ 0 ∧ ∃ nm : String, (Cond.classLink own z.catchType nm).before args s = true ∧ va_Nc E nm s)) (hx : covers x pc = true) (h0 : x.catchType ≠ 0)
    (hlink : (Cond.classLink own x.catchType name).before args s = true) (hcast : (Cond.castable E name).before args s = true) (hcell : H[q]? = some ce) (hv : ce.vm = .none) (hcl : s.vm.findClass E = some ce.cls)
    (kk : W p l e R s m args below meth c H locs cells slots Q (F0 m x.handlerPc ls [.ref q])) : vx_W p l e R s m args below meth c H locs cells slots Q (F0 m pc ls rest) q := by
  intro T hT X
  have hpl : e.platform.magicAccessors = ({} : Platform).magicAccessors := by rw [X.admits.platform]
  obtain ⟨c3, c4, hc3, hc4, hasg⟩ := Cond.castable_spec hcast
  cases Option.some.inj (hc3.symm.trans hcl)
  obtain ⟨c5, hc5, hcl5⟩ := Cond.classLink_spec hown hlink e.platform hpl
  cases Option.some.inj (hc4.symm.trans hc5)
  obtain ⟨vm', X', st⟩ := X.thenCaughtThrough q (g := F0 m pc ls rest) rfl (Steps.refl _) (by rw [hT]; exact hcell) (by rw [hv]; rfl) (by obtain ⟨k9, h9, -⟩ := Vm.findClass_spec hcl; exact ⟨k9, h9⟩) pre x suf hsplit
    (fun z hz => by
      rcases hpass z hz with h | ⟨hz0, nm, hl1, hn1⟩
      · exact Or.inl h
      · obtain ⟨c6, hc6, hcl6⟩ := Cond.classLink_spec hown hl1 e.platform hpl
        obtain ⟨a8, b8, h1, h2, h3⟩ := hn1
        cases Option.some.inj (h1.symm.trans hcl)
        cases Option.some.inj (h2.symm.trans hc6)
        exact Or.inr ⟨hz0, _, hcl6, h3⟩) hx (Or.inr ⟨h0, c4, hcl5, hasg⟩)
  obtain ⟨t, a1, b1⟩ := kk (T.setVm vm') hT X'
  exact ⟨t, st.trans a1, b1⟩
end Rows
section Ends
variable {p : Program} {l : Launch} {e : Env} {R : Room} {s : State} {m : MethodId} {args : Array Value} {below : List Frame} {meth : Method} {c : Code} {H : Heap} {locs : List Loc} {cells slots : Nat} {Q : State → Prop}
variable {mc ms : Nat} {free : Addr → Prop} {A0 A1 : Nat → Prop} {H0 : Heap} {a : Array Value} {ls : Array Slot} {st0 rest : List Value}
variable {Qc : Array Value → State → Outcome → State → Prop} {XC : String → State → State → Prop}
/-- what a body that may throw owes at its end -/
def vx_MQ (below : List Frame) (Qc : Array Value → State → Outcome → State → Prop) (XC : String → State → State → Prop) (a : Array Value) (s : State) (mc ms : Nat) (free : Addr → Prop) : State → Prop := fun t =>
  ∃ o, t.status = .running ∧ Ended t below o ∧ vx_Q Qc XC mc ms free a s o t
theorem vx_ret {g : JFrame} {mc ms : Nat} (k : W p l e R s m args below meth c H locs cells slots (MQ below Qc args s mc ms free) g) : W p l e R s m args below meth c H locs cells slots (vx_MQ below Qc XC args s mc ms free) g := by
  intro T hT X
  obtain ⟨t, a1, o, b1, b2, b3, b4⟩ := k T hT X
  exact ⟨t, a1, o, b1, b2, Or.inl ⟨b3, b4⟩⟩
/-- not caught here: it goes on to the caller -/
theorem vx_widen {g : JFrame} {q : Addr} {k n : Nat} (h1 : cells ≤ k) (h2 : slots ≤ n) (kk : vx_W p l e R s m args below meth c H locs k n Q g q) : vx_W p l e R s m args below meth c H locs cells slots Q g q := fun T hT X => kk T hT (stand_widen X h1 h2)
theorem vx_out {pc : Nat} {E : String} {ce : Cell} {q : Addr} {mc ms : Nat} (hout : ∀ x ∈ c.exceptionTable.toList, covers x pc = false) (hlocks : meth.locks = false) (hcell : H[q]? = some ce) (hv : ce.vm = .none) (hcl : s.vm.findClass E = some ce.cls)
    (hx : ∀ t : State, t.heap = H → s.vm.Alike t.vm → XC E s t) (hf : ∀ z ∈ locs, free z.base) (hc : cells ≤ mc) (hs : slots ≤ ms) :
    vx_W p l e R s m args below meth c H locs cells slots (vx_MQ below Qc XC args s mc ms free) (F0 m pc ls rest) q := by
  intro T hT X
  obtain ⟨st1, hrun, hend, hW, hsm⟩ := X.leaveThrown q (g := F0 m pc ls rest) rfl rfl rfl hout hlocks
  have hcell9 : (T.setFrames (.throwing q :: below)).heap[q]? = some ce := by
    show T.heap[q]? = some ce
    rw [hT]; exact hcell
  exact ⟨_, st1, .threw q, hrun, hend, Or.inr ⟨q, rfl, E, ce, locs, hx _ hT hW.alike, hcell9, hv, hcl, hW, hsm.mono hc hs, hf⟩⟩
theorem vx_frame {U : State} {k n : Nat} (h : s.sameButNew ({ U with vm := s.vm } : State) locs k n) : s.heap.size ≤ U.heap.size ∧ ∀ q : Nat, q < s.heap.size → (∀ z ∈ locs, z.base ≠ q) → U.heap[q]? = s.heap[q]? := by
  obtain ⟨-, h2, -, -, -, h6⟩ := h
  refine ⟨h2, fun q hq hz => ?_⟩
  obtain ⟨c9, e1, e2, e3, e4⟩ := h6 q _ (Array.getElem?_eq_getElem hq)
  have hs : c9.slots = (s.heap[q]).slots := Array.ext_getElem? fun i => e4 i fun hm => hz _ hm rfl
  have h9 : c9 = s.heap[q] := by
    rw [hs] at e2
    exact e2
  have e5 : U.heap[q]? = some c9 := e1
  rw [e5, h9, Array.getElem?_eq_getElem hq]
/-- the words of a throw but the four that speak of the heap -/
def vx_no (w : Cond) : Bool := decide (w ≠ .isRef (.static Bundle.tN "UNASSIGNED_STACK" Bundle.steD)) && decide (w ≠ .isRef (.static Bundle.tN "SUPPRESSED_SENTINEL" Bundle.listD)) && decide (w ≠ .laysStatic Bundle.tN "UNASSIGNED_STACK" Bundle.steD) && decide (w ≠ .laysStatic Bundle.tN "SUPPRESSED_SENTINEL" Bundle.listD)
def vx_at0 (own : String) (ic : Nat) (X : String) (names : List String) : List Cond := (Bundle.ownAtoms0 own ic X names).filter vx_no
def vx_atS (own : String) (ic : Nat) (X : String) (names : List String) : List Cond := (Bundle.ownAtoms own ic X names).filter vx_no
/-- a word that the tables alone decide, or a good one -/
def vx_ot (w : Cond) : Bool := w.onTables || goodWord w
theorem vx_ot_at {args a' : Array Value} {s U : State} {w : Cond} (hW : s.WarmedH U.vm) (hvm : s.vm = U.vm) (hg : vx_ot w = true) (h : w.before args s = true) : w.before a' U = true := by
  simp only [vx_ot, Bool.or_eq_true] at hg
  rcases hg with hg | hg
  · exact va_tabs hg hvm h
  · exact word_at hW (good_of_word hg) h
/-- a list's words: the good ones out of the method's own list, the others by premises of their own -/
theorem vx_hat {args : Array Value} {s : State} {L B : List Cond} (h1 : ∀ w ∈ L.filter goodWord, w.before args s = true) (h2 : ∀ w ∈ L.filter (fun w => !goodWord w), w ∈ B) (h3 : ∀ w ∈ B, w.before args s = true) : ∀ w ∈ L, w.before args s = true := by
  intro w hw
  by_cases g : goodWord w = true
  · exact h1 w (List.mem_filter.mpr ⟨hw, g⟩)
  · refine h3 w (h2 w (List.mem_filter.mpr ⟨hw, ?_⟩))
    show (!goodWord w) = true
    cases hgw : goodWord w
    · rfl
    · exact absurd hgw g
theorem vx_c {args : Array Value} {s : State} {w : Cond} {B : List Cond} (h : w.before args s = true) (t : ∀ w ∈ B, w.before args s = true) : ∀ w' ∈ w :: B, w'.before args s = true := fun w' h' => (List.mem_cons.mp h').elim (fun e => by rw [e]; exact h) (t w')
theorem vx_n {args : Array Value} {s : State} : ∀ w ∈ ([] : List Cond), w.before args s = true := fun _ h => nomatch h
theorem vx_own {args : Array Value} {s : State} {L : List Cond} (h1 : ∀ w ∈ L.filter vx_no, w.before args s = true)
    (hU : (Cond.isRef (.static Bundle.tN "UNASSIGNED_STACK" Bundle.steD)).before args s = true) (hN : (Cond.isRef (.static Bundle.tN "SUPPRESSED_SENTINEL" Bundle.listD)).before args s = true)
    (lU : (Cond.laysStatic Bundle.tN "UNASSIGNED_STACK" Bundle.steD).before args s = true) (lN : (Cond.laysStatic Bundle.tN "SUPPRESSED_SENTINEL" Bundle.listD).before args s = true) : ∀ w ∈ L, w.before args s = true := by
  intro w hw
  by_cases e1 : w = .isRef (.static Bundle.tN "UNASSIGNED_STACK" Bundle.steD)
  · rw [e1]; exact hU
  · by_cases e2 : w = .isRef (.static Bundle.tN "SUPPRESSED_SENTINEL" Bundle.listD)
    · rw [e2]; exact hN
    · by_cases e3 : w = .laysStatic Bundle.tN "UNASSIGNED_STACK" Bundle.steD
      · rw [e3]; exact lU
      · by_cases e4 : w = .laysStatic Bundle.tN "SUPPRESSED_SENTINEL" Bundle.listD
        · rw [e4]; exact lN
        · exact h1 w (List.mem_filter.mpr ⟨hw, by unfold vx_no; rw [decide_eq_true e1, decide_eq_true e2, decide_eq_true e3, decide_eq_true e4]; rfl⟩)
/-- where a static field lies, its class's statics cell in H -/
def vx_L (C n d : String) (A : Nat → Prop) (U : State) (H : Heap) : Prop := ∃ (c : ClassId) (k : Class) (i : Nat) (f : Field) (a : Nat) (cell : Cell), U.vm.findClass C = some c ∧ U.fieldFound? C n d = some (c, k, i, f) ∧ f.isStatic = true ∧ k.statics = some a ∧ H[a]? = some cell ∧ cell.vm.isStatics = true ∧ cell.cls = c ∧ f.slot < cell.slots.size ∧ k.staticTypes[f.slot]? = some f.type ∧ ¬ A a
theorem vx_L.moved {C n d : String} {A : Nat → Prop} {u U : State} {H : Heap} (hvm : u.vm.Alike U.vm) (h : vx_L C n d A u H) : vx_L C n d A U H := by
  obtain ⟨c, k, i, f, a, cell, h1, h2, h3, h4, h5, h6, h7, h8, h9, h10⟩ := h
  obtain ⟨k', hi', he⟩ := State.fieldFound?_setVm hvm h2
  exact ⟨c, k', i, f, a, cell, by rw [hvm.findClass]; exact h1, hi', h3, by rw [he]; exact h4, h5, h6, h7, h8, by rw [he]; exact h9, h10⟩
theorem vx_L.kept {C n d : String} {A : Nat → Prop} {U : State} {H H1 : Heap} (h : vx_L C n d A U H) (hq : ∀ a : Nat, a < H.size → ¬ A a → H1[a]? = H[a]?) : vx_L C n d A U H1 := by
  obtain ⟨c, k, i, f, a, cell, h1, h2, h3, h4, h5, h6, h7, h8, h9, h10⟩ := h
  exact ⟨c, k, i, f, a, cell, h1, h2, h3, h4, by rw [hq a (Array.getElem?_eq_some_iff.mp h5).1 h10]; exact h5, h6, h7, h8, h9, h10⟩
theorem vx_L.narrow {C n d : String} {A B : Nat → Prop} {U : State} {H : Heap} (h : vx_L C n d A U H) (hAB : ∀ q, B q → A q) : vx_L C n d B U H := by
  obtain ⟨c, k, i, f, a, cell, h1, h2, h3, h4, h5, h6, h7, h8, h9, h10⟩ := h
  exact ⟨c, k, i, f, a, cell, h1, h2, h3, h4, h5, h6, h7, h8, h9, fun z => h10 (hAB _ z)⟩
theorem vx_L.word {C n d : String} {A : Nat → Prop} {s : State} {args : Array Value} (h : vx_L C n d A s s.heap) : (Cond.laysStatic C n d).before args s = true := by
  obtain ⟨c, k, i, f, a, cell, h1, h2, h3, h4, h5, h6, h7, h8, h9, -⟩ := h
  show (Cond.laysStatic C n d).holds args s none s [] = true
  exact Cond.laysStatic_of h1 h2 h3 h4 h5 h6 h7 h8 h9
/-- .. and what it holds: null or some reference -/
def vx_Zq (C n d : String) (A : Nat → Prop) (U : State) (H : Heap) : Prop := va_Zq C n d A U H ∧ vx_L C n d A U H
theorem vx_Zq.moved {C n d : String} {A : Nat → Prop} {u U : State} {H : Heap} (hvm : u.vm.Alike U.vm) (h : vx_Zq C n d A u H) : vx_Zq C n d A U H := ⟨va_Zq.moved hvm h.1, vx_L.moved hvm h.2⟩
theorem vx_Zq.kept {C n d : String} {A : Nat → Prop} {U : State} {H H1 : Heap} (h : vx_Zq C n d A U H) (hq : ∀ a : Nat, a < H.size → ¬ A a → H1[a]? = H[a]?) : vx_Zq C n d A U H1 := ⟨va_Zq.kept h.1 hq, vx_L.kept h.2 hq⟩
theorem vx_Zq.narrow {C n d : String} {A B : Nat → Prop} {U : State} {H : Heap} (h : vx_Zq C n d A U H) (hAB : ∀ q, B q → A q) : vx_Zq C n d B U H := ⟨va_Zq.narrow h.1 hAB, vx_L.narrow h.2 hAB⟩
theorem vx_Zqof {args : Array Value} {s : State} {C n d : String} {A : Nat → Prop} (hl : (Cond.laysStatic C n d).before args s = true) (hini : (Cond.initialized C).before args s = true) (h : (Cond.isRef (.static C n d)).before args s = true) (hA : ∀ a : Nat, a < s.heap.size → ¬ A a) : vx_Zq C n d A s s.heap := by
  refine ⟨va_Zqof hl hini h hA, ?_⟩
  obtain ⟨c, k, i, f, a, cell, h1, h2, h3, h4, h5, h6, h7, h8, h9⟩ := Cond.laysStatic_spec hl
  exact ⟨c, k, i, f, a, cell, h1, h2, h3, h4, h5, h6, h7, h8, h9, hA a (Array.getElem?_eq_some_iff.mp h5).1⟩
theorem vx_isRef {C n d : String} {v : Value} {A : Nat → Prop} {s : State} {args : Array Value} (h : va_Z C n d v A s s.heap) (hv : v.isRef = true) : (Cond.isRef (.static C n d)).before args s = true := by
  obtain ⟨cf, kf, fi, f, a, cell, h1, h2, h3, h4, h5, h6, h7, -⟩ := h
  have he : (Term.static C n d).eval args s none [] s = some v := by
    simp [Term.eval, State.fieldNamed?, h1, h2, h4, h5, h6, h7]
  simp only [Cond.before, Cond.holds, Cond.value, he]
  cases v <;> simp_all [Value.isRef]
theorem vx_isRefq {C n d : String} {A : Nat → Prop} {s : State} {args : Array Value} (h : va_Zq C n d A s s.heap) : (Cond.isRef (.static C n d)).before args s = true := by
  rcases h with h | ⟨t, h⟩
  · exact vx_isRef h rfl
  · exact vx_isRef h rfl
/-- the same frame, seen from here: as if the method were called anew in this heap -/
theorem vx_rebase {T : State} (X : Stand p l e R s m args below meth c T locs cells slots) {R' : Room} (hf : R'.frames ≤ R.frames) (hl : R'.locals ≤ R.locals) (hc : cells + R'.cells ≤ R.cells) (hs : slots + R'.slots ≤ R.slots) :
    Stand p l e R' ((T.setVm s.vm).setFrames (.invoking m args :: below)) m args below meth c T [] 0 0 := by
  have htop : (T.setVm s.vm).topJava?.isSome := X.here.top
  have hF : ((T.setVm s.vm).setFrames (.invoking m args :: below)).frames = .invoking m args :: below := State.frames_setFrames _ (State.cur_lt_of_top htop)
  obtain ⟨g₀, hg0⟩ := Option.isSome_iff_exists.mp htop
  obtain ⟨r, hr⟩ := State.topJava?_eq_some.mp hg0
  have hl9 : e.platform.stackLimits (T.setVm s.vm).me = e.platform.stackLimits s.me := X.limits
  have hb9 : (T.setVm s.vm).me.stackBytes = s.me.stackBytes := X.bytes
  refine ⟨X.admits, X.cas, X.clock, hF, ?_, X.hears, X.method, X.code, X.here, X.tail, X.warmed, ?_, ?_, ?_⟩
  · have h := X.room
    have hU : ((T.setVm s.vm).setFrames (.invoking m args :: below)).localsInUse = s.localsInUse := by
      rw [State.localsInUse_invoking hF (meth := meth) (c := c) X.method X.code, State.localsInUse_invoking X.frames X.method X.code]
    simp only [State.hasRoom, Bool.and_eq_true, decide_eq_true_eq] at h ⊢
    obtain ⟨⟨⟨⟨h1, h2, h3, h4, h5, h6⟩, h7⟩, h8⟩, h9⟩ := h
    rw [X.frames, List.length_cons] at h2 h3
    have q1 := X.heapSize
    have q2 := X.used
    simp only [hF, hU, List.length_cons, State.stackLimits_setFrames, State.stackBytes_setFrames, hl9, hb9]
    refine ⟨⟨⟨⟨by omega, by omega, by omega, by omega, by omega, h6⟩, ?_⟩, ?_⟩, X.book⟩
    · show T.heap.size + R'.cells ≤ e.platform.maxCells
      omega
    · show T.slotsUsed + R'.slots ≤ e.platform.maxSlots
      omega
  · rw [State.stackLimits_setFrames]; rfl
  · rw [State.stackBytes_setFrames]; rfl
  · refine ⟨?_, Nat.le_refl _, Nat.le_refl _, ?_, ?_, fun a c9 h9 => ⟨c9, h9, rfl, rfl, fun _ _ => rfl⟩⟩
    · obtain ⟨t, ht, -⟩ := State.frames_cons hr
      show T.setVm s.vm = { ((T.setVm s.vm).setFrames (.invoking m args :: below)).setFrames (T.setVm s.vm).frames with heap := T.heap, slotsUsed := T.slotsUsed }
      rw [State.setFrames_setFrames, State.setFrames_self ht]
      rfl
    · show T.slotsUsed = T.slotsUsed + ((T.heap.toList.drop T.heap.size).map (·.slots.size)).sum
      rw [List.drop_eq_nil_of_le (Nat.le_of_eq Array.length_toList)]
      rfl
    · show ((T.heap.toList.drop T.heap.size).map (·.slots.size)).sum ≤ 0
      rw [List.drop_eq_nil_of_le (Nat.le_of_eq Array.length_toList)]
      exact Nat.le_refl _
/-- 'throw new E()': new; dup; invokespecial; athrow -/
theorem vx_throw0 {cc : ByteArray} {pc : Nat} (hexec : p.tables.exec = Jvm.exec) (hb : c.code = cc) (hl : l.stackTraces = false) {own cls : String} {names : List String} {ik ic mc ms : Nat} {A : Nat → Prop}
    (hown : s.vm.findClass own = some m.cls) (hcls : Bundle.fit cls = true) (hnames : ∀ n ∈ names, Bundle.fit n = true)
    (hk : (Cond.classLink own ik cls).before args s = true) (hini : (Cond.initialized cls).before args s = true) (hat : ∀ w ∈ vx_at0 own ic cls names, w.before args s = true)
    (hgood : ∀ w ∈ Cond.classLink own ik cls :: Cond.initialized cls :: vx_at0 own ic cls names, vx_ot w = true)
    (hU : vx_Zq Bundle.tN "UNASSIGNED_STACK" Bundle.steD A s s.heap) (hN : vx_Zq Bundle.tN "SUPPRESSED_SENTINEL" Bundle.listD A s s.heap) (hS : va_S A s.heap H locs) (hsize : ls.size = c.maxLocals)
    (d0 : decode cc pc = .ok (.new ik, 3)) (d3 : decode cc (pc + 3) = .ok (.dup, 1)) (d4 : decode cc (pc + 4) = .ok (.invokespecial ic, 3)) (d7 : decode cc (pc + 7) = .ok (.athrow, 1))
    (hout : ∀ x ∈ c.exceptionTable.toList, covers x (pc + 7) = false)
    (hRframes : names.length + 3 < R.frames) (hRlocals : (rest.map fun v => v.category).sum + (13 * (names.length + 1) + 42) ≤ R.locals) (hRcells : cells + 1 ≤ R.cells) (hRslots : slots + 6 ≤ R.slots) (hlocks : meth.locks = false)
    (hx : ∀ t : State, s.vm.Alike t.vm → H.size ≤ t.heap.size → (∀ q : Nat, q < H.size → t.heap[q]? = H[q]?) → XC cls s t)
    (hf : ∀ z ∈ locs, free z.base) (hc : cells + 1 ≤ mc) (hs : slots + 6 ≤ ms) :
    W p l e R s m args below meth c H locs cells slots (vx_MQ below Qc XC args s mc ms free) (F0 m pc ls rest) := by
  intro T hT X
  have htr : e.platform.stackTraces = false := (show e.platform.stackTraces = l.stackTraces by rw [X.admits.platform]).trans hl
  have Y := vx_rebase X (R' := { frames := R.frames, locals := R.locals, cells := 1, slots := 6 }) (Nat.le_refl _) (Nat.le_refl _) hRcells hRslots
  obtain ⟨s', hA⟩ : ∃ z, z = (T.setVm s.vm).setFrames (.invoking m args :: below) := ⟨_, rfl⟩
  rw [← hA] at Y
  have hvm : s'.vm = s.vm := by rw [hA]; rfl
  have hhp : s'.heap = H := by rw [hA]; exact hT
  have hW0 : s.WarmedH s'.vm := by rw [hvm]; exact State.WarmedH.refl s
  have hat' : ∀ w ∈ vx_at0 own ic cls names, w.before args s' = true := fun w hw => vx_ot_at hW0 hvm.symm (hgood w (List.mem_cons_of_mem _ (List.mem_cons_of_mem _ hw))) (hat w hw)
  have hk' : (Cond.classLink own ik cls).before args s' = true := vx_ot_at hW0 hvm.symm (hgood _ List.mem_cons_self) hk
  have hini' : (Cond.initialized cls).before args s' = true := vx_ot_at hW0 hvm.symm (hgood _ (List.mem_cons_of_mem _ List.mem_cons_self)) hini
  have hU' : vx_Zq Bundle.tN "UNASSIGNED_STACK" Bundle.steD A s' s'.heap := by rw [hhp]; exact vx_Zq.moved hW0.alike (hU.kept hS.2.1)
  have hN' : vx_Zq Bundle.tN "SUPPRESSED_SENTINEL" Bundle.listD A s' s'.heap := by rw [hhp]; exact vx_Zq.moved hW0.alike (hN.kept hS.2.1)
  have h : ∀ w ∈ Bundle.ownAtoms0 own ic cls names, w.before args s' = true := vx_own hat' (vx_isRefq hU'.1) (vx_isRefq hN'.1) hU'.2.word hN'.2.word
  have hown' : s'.vm.findClass own = some m.cls := by rw [hvm]; exact hown
  have hins : (Cond.instantiable cls 6).before args s' = true := h _ (by simp [Bundle.ownAtoms0])
  obtain ⟨vm₁, cX, kX, hfX, hkX, -, -, X₁, st1⟩ := Y.newCold hexec (own := own) (C := cls) (index := ik) (n := 6) hown' hk' hins hini'
    (g := F0 m pc ls rest) rfl (by rw [hb]; exact d0) (Nat.le_refl _) (Nat.le_refl _)
  generalize hT1 : (T.setVm vm₁).pushCell { cls := cX, slots := kX.instanceTypes.map defaultValue, vm := .none } = T1 at X₁ st1
  have hcat : (Value.ref T.heap.size).category = 1 := rfl
  have hcellA : T1.heap[T.heap.size]? = some (freshCell cX kX) := by rw [← hT1]; exact State.heap_pushCell_size _ _
  have d3' : decode c.code (pc + 3) = .ok (.dup, 1) := by rw [hb]; exact d3
  obtain ⟨U, hsteps, hrun, hend, hW, hsame, ce, hce, hO⟩ := X₁.ctorThrow0 hexec htr (own := own) (cls := cls) (names := names) (ic := ic) hown' hcls hnames h (fun x hx => nomatch hx) hfX hkX hcellA (by rw [hhp, hT]; exact Nat.le_refl _)
    (g := { method := m, pc := pc + 4, locals := ls, stack := .ref T.heap.size :: .ref T.heap.size :: rest, locked := none }) rfl hsize rfl rfl (rest := rest) rfl
    (by rw [hb]; exact d4) (by rw [hb]; exact d7) hout hRframes (by simp only [List.map_cons, List.sum_cons, hcat]; omega) hlocks
  obtain ⟨f1, f2⟩ := vx_frame hsame
  rw [hhp] at f1 f2
  have hWs : s.WarmedH U.vm := State.WarmedH.trans hW0 hW
  have hcl : s.vm.findClass cls = some ce.cls := by
    have h9 := hO.cls
    rw [hvm] at h9
    exact h9
  have hall : s.sameButNew ({ U with vm := s.vm } : State) locs mc ms := by
    subst hA
    obtain ⟨e1, e2⟩ := hsame
    rw [State.setFrames_setFrames] at e1
    have h2 : (T.setVm s.vm).sameButNew ({ U with vm := s.vm } : State) [] (0 + 1) (0 + 6) := ⟨e1, e2⟩
    have h3 := X.same.trans h2
    rw [List.append_nil] at h3
    exact h3.mono hc hs
  refine ⟨U, ?_, .threw T.heap.size, hrun, hend, Or.inr ⟨T.heap.size, rfl, cls, ce, locs, hx U hWs.alike f1 (fun q hq => f2 q hq (fun z hz => nomatch hz)), hce, hO.vm, hcl, hWs, hall, hf⟩⟩
  refine st1 _ ?_
  show Steps p.tables e below (T1.setTop { method := m, pc := pc + 3, locals := ls, stack := .ref T.heap.size :: rest, locked := none }) _
  jvm_step X₁.here [X₁.here.top, hexec, d3', Value.category]
  exact hsteps
/-- 'throw new E("text")': new; dup; ldc; invokespecial; athrow -/
theorem vx_throwS {cc : ByteArray} {pc : Nat} (hexec : p.tables.exec = Jvm.exec) (hb : c.code = cc) (hl : l.stackTraces = false) {own cls text : String} {names : List String} {ik is ic mc ms sa : Nat} {A : Nat → Prop}
    (hown : s.vm.findClass own = some m.cls) (hcls : Bundle.fit cls = true) (hnames : ∀ n ∈ names, Bundle.fit n = true)
    (hk : (Cond.classLink own ik cls).before args s = true) (hini : (Cond.initialized cls).before args s = true) (hstr : vk_R own is text sa s) (hat : ∀ w ∈ vx_atS own ic cls names, w.before args s = true)
    (hgood : ∀ w ∈ Cond.classLink own ik cls :: Cond.initialized cls :: vx_atS own ic cls names, vx_ot w = true)
    (hU : vx_Zq Bundle.tN "UNASSIGNED_STACK" Bundle.steD A s s.heap) (hN : vx_Zq Bundle.tN "SUPPRESSED_SENTINEL" Bundle.listD A s s.heap) (hS : va_S A s.heap H locs) (hsize : ls.size = c.maxLocals)
    (d0 : decode cc pc = .ok (.new ik, 3)) (d3 : decode cc (pc + 3) = .ok (.dup, 1)) (d4 : decode cc (pc + 4) = .ok (.ldc is, 2)) (d6 : decode cc (pc + 6) = .ok (.invokespecial ic, 3)) (d9 : decode cc (pc + 9) = .ok (.athrow, 1))
    (hout : ∀ x ∈ c.exceptionTable.toList, covers x (pc + 9) = false)
    (hRframes : names.length + 3 < R.frames) (hRlocals : (rest.map fun v => v.category).sum + (13 * (names.length + 1) + 43) ≤ R.locals) (hRcells : cells + 1 ≤ R.cells) (hRslots : slots + 6 ≤ R.slots) (hlocks : meth.locks = false)
    (hx : ∀ t : State, s.vm.Alike t.vm → H.size ≤ t.heap.size → (∀ q : Nat, q < H.size → t.heap[q]? = H[q]?) → XC cls s t)
    (hf : ∀ z ∈ locs, free z.base) (hc : cells + 1 ≤ mc) (hs : slots + 6 ≤ ms) :
    W p l e R s m args below meth c H locs cells slots (vx_MQ below Qc XC args s mc ms free) (F0 m pc ls rest) := by
  intro T hT X
  have htr : e.platform.stackTraces = false := (show e.platform.stackTraces = l.stackTraces by rw [X.admits.platform]).trans hl
  have Y := vx_rebase X (R' := { frames := R.frames, locals := R.locals, cells := 1, slots := 6 }) (Nat.le_refl _) (Nat.le_refl _) hRcells hRslots
  obtain ⟨s', hA⟩ : ∃ z, z = (T.setVm s.vm).setFrames (.invoking m args :: below) := ⟨_, rfl⟩
  rw [← hA] at Y
  have hvm : s'.vm = s.vm := by rw [hA]; rfl
  have hhp : s'.heap = H := by rw [hA]; exact hT
  have hW0 : s.WarmedH s'.vm := by rw [hvm]; exact State.WarmedH.refl s
  have hat' : ∀ w ∈ vx_atS own ic cls names, w.before args s' = true := fun w hw => vx_ot_at hW0 hvm.symm (hgood w (List.mem_cons_of_mem _ (List.mem_cons_of_mem _ hw))) (hat w hw)
  have hk' : (Cond.classLink own ik cls).before args s' = true := vx_ot_at hW0 hvm.symm (hgood _ List.mem_cons_self) hk
  have hini' : (Cond.initialized cls).before args s' = true := vx_ot_at hW0 hvm.symm (hgood _ (List.mem_cons_of_mem _ List.mem_cons_self)) hini
  have hU' : vx_Zq Bundle.tN "UNASSIGNED_STACK" Bundle.steD A s' s'.heap := by rw [hhp]; exact vx_Zq.moved hW0.alike (hU.kept hS.2.1)
  have hN' : vx_Zq Bundle.tN "SUPPRESSED_SENTINEL" Bundle.listD A s' s'.heap := by rw [hhp]; exact vx_Zq.moved hW0.alike (hN.kept hS.2.1)
  have h : ∀ w ∈ Bundle.ownAtoms own ic cls names, w.before args s' = true := vx_own hat' (vx_isRefq hU'.1) (vx_isRefq hN'.1) hU'.2.word hN'.2.word
  have hown' : s'.vm.findClass own = some m.cls := by rw [hvm]; exact hown
  have hins : (Cond.instantiable cls 6).before args s' = true := h _ (by simp [Bundle.ownAtoms])
  obtain ⟨vm₁, cX, kX, hfX, hkX, -, -, X₁, st1⟩ := Y.newCold hexec (own := own) (C := cls) (index := ik) (n := 6) hown' hk' hins hini'
    (g := F0 m pc ls rest) rfl (by rw [hb]; exact d0) (Nat.le_refl _) (Nat.le_refl _)
  generalize hT1 : (T.setVm vm₁).pushCell { cls := cX, slots := kX.instanceTypes.map defaultValue, vm := .none } = T1 at X₁ st1
  have hcat : (Value.ref T.heap.size).category = 1 := rfl
  have hcellA : T1.heap[T.heap.size]? = some (freshCell cX kX) := by rw [← hT1]; exact State.heap_pushCell_size _ _
  have d3' : decode c.code (pc + 3) = .ok (.dup, 1) := by rw [hb]; exact d3
  have d4' : decode c.code (pc + 4) = .ok (.ldc is, 2) := by rw [hb]; exact d4
  have hstr' : vk_R own is text sa s' := vk_R.warm hW0 hstr
  obtain ⟨U, hsteps, hrun, hend, hW, hsame, ce, hce, hO⟩ := X₁.ctorThrowS hexec htr (own := own) (cls := cls) (names := names) (ic := ic) hown' hcls hnames h (fun x hx => nomatch hx) hfX hkX hcellA (by rw [hhp, hT]; exact Nat.le_refl _) (msg := .ref sa) rfl
    (g := { method := m, pc := pc + 6, locals := ls, stack := .ref sa :: .ref T.heap.size :: .ref T.heap.size :: rest, locked := none }) rfl hsize rfl rfl (rest := rest) rfl
    (by rw [hb]; exact d6) (by rw [hb]; exact d9) hout hRframes (by simp only [List.map_cons, List.sum_cons, hcat]; omega) hlocks
  obtain ⟨f1, f2⟩ := vx_frame hsame
  rw [hhp] at f1 f2
  have hWs : s.WarmedH U.vm := State.WarmedH.trans hW0 hW
  have hcl : s.vm.findClass cls = some ce.cls := by
    have h9 := hO.cls
    rw [hvm] at h9
    exact h9
  have hall : s.sameButNew ({ U with vm := s.vm } : State) locs mc ms := by
    subst hA
    obtain ⟨e1, e2⟩ := hsame
    rw [State.setFrames_setFrames] at e1
    have h2 : (T.setVm s.vm).sameButNew ({ U with vm := s.vm } : State) [] (0 + 1) (0 + 6) := ⟨e1, e2⟩
    have h3 := X.same.trans h2
    rw [List.append_nil] at h3
    exact h3.mono hc hs
  refine ⟨U, ?_, .threw T.heap.size, hrun, hend, Or.inr ⟨T.heap.size, rfl, cls, ce, locs, hx U hWs.alike f1 (fun q hq => f2 q hq (fun z hz => nomatch hz)), hce, hO.vm, hcl, hWs, hall, hf⟩⟩
  refine st1 _ ?_
  show Steps p.tables e below (T1.setTop { method := m, pc := pc + 3, locals := ls, stack := .ref T.heap.size :: rest, locked := none }) _
  jvm_step X₁.here [X₁.here.top, hexec, d3', Value.category]
  exact X₁.ldcString hexec (own := own) (text := text) (index := is) (a := sa) hown' hstr'.1 hstr'.2
    (g := { method := m, pc := pc + 4, locals := ls, stack := .ref T.heap.size :: .ref T.heap.size :: rest, locked := none }) rfl d4' _ hsteps
/-- 'throw new E("text")', the text by a wide index -/
theorem vx_throwSW {cc : ByteArray} {pc : Nat} (hexec : p.tables.exec = Jvm.exec) (hb : c.code = cc) (hl : l.stackTraces = false) {own cls text : String} {names : List String} {ik is ic mc ms sa : Nat} {A : Nat → Prop}
    (hown : s.vm.findClass own = some m.cls) (hcls : Bundle.fit cls = true) (hnames : ∀ n ∈ names, Bundle.fit n = true)
    (hk : (Cond.classLink own ik cls).before args s = true) (hini : (Cond.initialized cls).before args s = true) (hstr : vk_R own is text sa s) (hat : ∀ w ∈ vx_atS own ic cls names, w.before args s = true)
    (hgood : ∀ w ∈ Cond.classLink own ik cls :: Cond.initialized cls :: vx_atS own ic cls names, vx_ot w = true)
    (hU : vx_Zq Bundle.tN "UNASSIGNED_STACK" Bundle.steD A s s.heap) (hN : vx_Zq Bundle.tN "SUPPRESSED_SENTINEL" Bundle.listD A s s.heap) (hS : va_S A s.heap H locs) (hsize : ls.size = c.maxLocals)
    (d0 : decode cc pc = .ok (.new ik, 3)) (d3 : decode cc (pc + 3) = .ok (.dup, 1)) (d4 : decode cc (pc + 4) = .ok (.ldc_w is, 3)) (d7 : decode cc (pc + 7) = .ok (.invokespecial ic, 3)) (d10 : decode cc (pc + 10) = .ok (.athrow, 1))
    (hout : ∀ x ∈ c.exceptionTable.toList, covers x (pc + 10) = false)
    (hRframes : names.length + 3 < R.frames) (hRlocals : (rest.map fun v => v.category).sum + (13 * (names.length + 1) + 43) ≤ R.locals) (hRcells : cells + 1 ≤ R.cells) (hRslots : slots + 6 ≤ R.slots) (hlocks : meth.locks = false)
    (hx : ∀ t : State, s.vm.Alike t.vm → H.size ≤ t.heap.size → (∀ q : Nat, q < H.size → t.heap[q]? = H[q]?) → XC cls s t)
    (hf : ∀ z ∈ locs, free z.base) (hc : cells + 1 ≤ mc) (hs : slots + 6 ≤ ms) :
    W p l e R s m args below meth c H locs cells slots (vx_MQ below Qc XC args s mc ms free) (F0 m pc ls rest) := by
  intro T hT X
  have htr : e.platform.stackTraces = false := (show e.platform.stackTraces = l.stackTraces by rw [X.admits.platform]).trans hl
  have Y := vx_rebase X (R' := { frames := R.frames, locals := R.locals, cells := 1, slots := 6 }) (Nat.le_refl _) (Nat.le_refl _) hRcells hRslots
  obtain ⟨s', hA⟩ : ∃ z, z = (T.setVm s.vm).setFrames (.invoking m args :: below) := ⟨_, rfl⟩
  rw [← hA] at Y
  have hvm : s'.vm = s.vm := by rw [hA]; rfl
  have hhp : s'.heap = H := by rw [hA]; exact hT
  have hW0 : s.WarmedH s'.vm := by rw [hvm]; exact State.WarmedH.refl s
  have hat' : ∀ w ∈ vx_atS own ic cls names, w.before args s' = true := fun w hw => vx_ot_at hW0 hvm.symm (hgood w (List.mem_cons_of_mem _ (List.mem_cons_of_mem _ hw))) (hat w hw)
  have hk' : (Cond.classLink own ik cls).before args s' = true := vx_ot_at hW0 hvm.symm (hgood _ List.mem_cons_self) hk
  have hini' : (Cond.initialized cls).before args s' = true := vx_ot_at hW0 hvm.symm (hgood _ (List.mem_cons_of_mem _ List.mem_cons_self)) hini
  have hU' : vx_Zq Bundle.tN "UNASSIGNED_STACK" Bundle.steD A s' s'.heap := by rw [hhp]; exact vx_Zq.moved hW0.alike (hU.kept hS.2.1)
  have hN' : vx_Zq Bundle.tN "SUPPRESSED_SENTINEL" Bundle.listD A s' s'.heap := by rw [hhp]; exact vx_Zq.moved hW0.alike (hN.kept hS.2.1)
  have h : ∀ w ∈ Bundle.ownAtoms own ic cls names, w.before args s' = true := vx_own hat' (vx_isRefq hU'.1) (vx_isRefq hN'.1) hU'.2.word hN'.2.word
  have hown' : s'.vm.findClass own = some m.cls := by rw [hvm]; exact hown
  have hins : (Cond.instantiable cls 6).before args s' = true := h _ (by simp [Bundle.ownAtoms])
  obtain ⟨vm₁, cX, kX, hfX, hkX, -, -, X₁, st1⟩ := Y.newCold hexec (own := own) (C := cls) (index := ik) (n := 6) hown' hk' hins hini'
    (g := F0 m pc ls rest) rfl (by rw [hb]; exact d0) (Nat.le_refl _) (Nat.le_refl _)
  generalize hT1 : (T.setVm vm₁).pushCell { cls := cX, slots := kX.instanceTypes.map defaultValue, vm := .none } = T1 at X₁ st1
  have hcat : (Value.ref T.heap.size).category = 1 := rfl
  have hcellA : T1.heap[T.heap.size]? = some (freshCell cX kX) := by rw [← hT1]; exact State.heap_pushCell_size _ _
  have d3' : decode c.code (pc + 3) = .ok (.dup, 1) := by rw [hb]; exact d3
  have d4' : decode c.code (pc + 4) = .ok (.ldc_w is, 3) := by rw [hb]; exact d4
  have hstr' : vk_R own is text sa s' := vk_R.warm hW0 hstr
  obtain ⟨U, hsteps, hrun, hend, hW, hsame, ce, hce, hO⟩ := X₁.ctorThrowS hexec htr (own := own) (cls := cls) (names := names) (ic := ic) hown' hcls hnames h (fun x hx => nomatch hx) hfX hkX hcellA (by rw [hhp, hT]; exact Nat.le_refl _) (msg := .ref sa) rfl
    (g := { method := m, pc := pc + 7, locals := ls, stack := .ref sa :: .ref T.heap.size :: .ref T.heap.size :: rest, locked := none }) rfl hsize rfl rfl (rest := rest) rfl
    (by rw [hb]; exact d7) (by rw [hb]; exact d10) hout hRframes (by simp only [List.map_cons, List.sum_cons, hcat]; omega) hlocks
  obtain ⟨f1, f2⟩ := vx_frame hsame
  rw [hhp] at f1 f2
  have hWs : s.WarmedH U.vm := State.WarmedH.trans hW0 hW
  have hcl : s.vm.findClass cls = some ce.cls := by
    have h9 := hO.cls
    rw [hvm] at h9
    exact h9
  have hall : s.sameButNew ({ U with vm := s.vm } : State) locs mc ms := by
    subst hA
    obtain ⟨e1, e2⟩ := hsame
    rw [State.setFrames_setFrames] at e1
    have h2 : (T.setVm s.vm).sameButNew ({ U with vm := s.vm } : State) [] (0 + 1) (0 + 6) := ⟨e1, e2⟩
    have h3 := X.same.trans h2
    rw [List.append_nil] at h3
    exact h3.mono hc hs
  refine ⟨U, ?_, .threw T.heap.size, hrun, hend, Or.inr ⟨T.heap.size, rfl, cls, ce, locs, hx U hWs.alike f1 (fun q hq => f2 q hq (fun z hz => nomatch hz)), hce, hO.vm, hcl, hWs, hall, hf⟩⟩
  refine st1 _ ?_
  show Steps p.tables e below (T1.setTop { method := m, pc := pc + 3, locals := ls, stack := .ref T.heap.size :: rest, locked := none }) _
  jvm_step X₁.here [X₁.here.top, hexec, d3', Value.category]
  exact X₁.ldcStringW hexec (own := own) (text := text) (index := is) (a := sa) hown' hstr'.1 hstr'.2
    (g := { method := m, pc := pc + 4, locals := ls, stack := .ref T.heap.size :: .ref T.heap.size :: rest, locked := none }) rfl d4' _ hsteps
end Ends
section Bodies
variable {l : Launch}
theorem vx_ofW {y : MethodName} {ws ws' : List Cond} {rm : Room} {Pc : Array Value → State → Prop} {Qc : Array Value → State → Outcome → State → Prop} {XC : String → State → State → Prop} {mc ms : Nat} {free : Addr → Prop} {cc : ByteArray} {maxL : Nat} {ret : Option FieldType}
    (hy : plainName y.cls = true) (hw : ws = Cond.code y cc maxL ret :: ws')
    (body : ∀ p e s m args below meth c s₁, BodyLoose p l y (headSpec ws rm) cc maxL ret e s m args below meth c s₁ → c.maxLocals = maxL → (∀ x ∈ c.exceptionTable.toList, False) → Pc args s →
      W p l e (headSpec ws rm).room s m args below meth c s.heap [] 0 0 (vx_MQ below Qc XC args s mc ms free) (entryFrame m args maxL)) : vx_Met l y ws rm Pc Qc XC mc ms free := by
  refine MetFree.of_bodyS (code := cc) (maxLocals := maxL) (ret := ret) hy ?_ ?_
  · intro args s m h hn
    obtain ⟨meth, c, h1, h2, h3, h4, h5, h6, -, -⟩ := Cond.code_spec hn (atoms_spec (ws := ws) h _ (by rw [hw]; exact List.mem_cons_self))
    exact ⟨meth, c, h1, h2, h3, h4, h5, h6⟩
  · intro p e s m args below meth c s₁ B hml hP _
    have hh0 : s₁.heap = s.heap := by rw [B.state]; rfl
    have ht : ∀ x ∈ c.exceptionTable.toList, False := by
      obtain ⟨meth9, c9, h1, h2, -, -, -, -, h7, -⟩ := Cond.code_spec B.named (atoms_spec (ws := ws) B.pre _ (by rw [hw]; exact List.mem_cons_self))
      cases Option.some.inj (h1.symm.trans B.method)
      cases Option.some.inj (h2.symm.trans (Stand.of_body B).code)
      intro x hx
      rw [Array.isEmpty_iff.mp h7] at hx
      cases hx
    obtain ⟨t, a1, o, b1, b2, b3⟩ := body p e s m args below meth c s₁ B hml ht hP s₁ hh0 (Stand.of_body B)
    exact ⟨t, o, a1, b1, b2, b3⟩
/-- the table of a body with handlers -/
theorem vx_table {p : Program} {x y : MethodName} {S : Spec} {cc bytes : ByteArray} {maxL maxL' : Nat} {ret ret' : Option FieldType} {e : Env} {s s₁ : State} {m : MethodId} {args : Array Value} {below : List Frame} {meth : Method} {c : Code} {hh : List (Nat × Nat × Nat × Nat)}
    (B : BodyLoose p l y S cc maxL ret e s m args below meth c s₁) (h : (Cond.codeWith y bytes maxL' ret' hh).before args s = true) : c.exceptionTable.toList = tableOf hh := by
  obtain ⟨m9, meth9, c9, hn9, h1, h2, -, -, h6, -⟩ := Cond.codeWith_spec h
  cases Option.some.inj (hn9.symm.trans B.named)
  cases Option.some.inj (h1.symm.trans B.method)
  cases Option.some.inj (h2.symm.trans (Stand.of_body B).code)
  rw [← h6, table_eq]
end Bodies
end VXA
/-! ===== END ===== -/
/-! ===== BEGIN a static call of a method with an exception table ===== -/
section VXS
variable {p : Program} {l : Launch} {e : Env} {R : Room} {s : State} {m : MethodId} {args : Array Value} {below : List Frame} {meth : Method} {c : Code} {T : State} {H : Heap} {locs : List Loc} {cells slots : Nat}
abbrev vx_CSW (R : Room) (s : State) (args : Array Value) (own : String) (index : Nat) (y : MethodName) (bytes : ByteArray) (maxL : Nat) (ret : Option FieldType) (hh : List (Nat × Nat × Nat × Nat)) (ws : List Cond) (rm : Room) (mc ms n : Nat) : Prop :=
  (rm.cells = mc ∧ rm.slots = ms ∧ rm.frames + 1 ≤ R.frames ∧ 8 + (maxL + 11) + rm.locals ≤ R.locals ∧ (∀ w ∈ ws, ∀ (a' : Array Value) (U : State), s.WarmedH U.vm → w.before a' U = true) ∧ Cond.codeWith y bytes maxL ret hh ∈ ws) ∧
  (Cond.codeWith y bytes maxL ret hh).before args s = true ∧ (Cond.initialized y.cls).before args s = true ∧ (y.cls ≠ "java/lang/invoke/MethodHandle" ∧ y.cls ≠ "java/lang/invoke/VarHandle") ∧
  (∀ sig, parseMethodDescriptor y.desc = some sig → n = sig.parameters.length) ∧ (Cond.methodLink own index y).before args s = true ∧ (Cond.static y).before args s = true
theorem vx_cwSW {own : String} {index maxL mc ms : Nat} {y : MethodName} {bytes : ByteArray} {ret : Option FieldType} {hh : List (Nat × Nat × Nat × Nat)} {Ts ws ws' : List Cond} {rm : Room} (n : Nat) (ht : ∀ w ∈ Ts, w.before args s = true) (hT : GoodIn Ts (va_wsS own index y ws)) (hw : ws = Cond.codeWith y bytes maxL ret hh :: ws') (hrc : rm.cells = mc) (hrs : rm.slots = ms)
    (hd : y.cls ≠ "java/lang/invoke/MethodHandle" ∧ y.cls ≠ "java/lang/invoke/VarHandle" ∧ (parseMethodDescriptor y.desc).map (fun d => d.parameters.length) = some n) (hR : rm.frames + 1 ≤ R.frames ∧ 8 + (maxL + 11) + rm.locals ≤ R.locals) :
    vx_CSW R s args own index y bytes maxL ret hh ws rm mc ms n := by
  have ok : ∀ w ∈ va_wsS own index y ws, w.before args s = true := fun w h => ht w (hT w h).1
  have hG : GoodIn Ts ws := fun w h => hT w (by unfold va_wsS; exact List.mem_append_right _ h)
  have hc : Cond.codeWith y bytes maxL ret hh ∈ ws := by rw [hw]; exact List.mem_cons_self
  refine ⟨⟨hrc, hrs, hR.1, hR.2, pay_in ht hG, hc⟩, ht _ (hG _ hc).1, ok _ (by simp [va_wsS]), ⟨hd.1, hd.2.1⟩, fun sig h => ?_, ok _ (by simp [va_wsS]), ok _ (by simp [va_wsS])⟩
  have h2 := hd.2.2
  rw [h] at h2
  exact (Option.some.inj h2).symm
theorem vx_callSW (X : Stand p l e R s m args below meth c T locs cells slots) (hexec : p.tables.exec = Jvm.exec) {own : String} {index : Nat} {y : MethodName} {bytes : ByteArray} {maxL : Nat} {ret : Option FieldType} {hh : List (Nat × Nat × Nat × Nat)}
    (hown : s.vm.findClass own = some m.cls) (hlink : (Cond.methodLink own index y).before args s = true) (hstat : (Cond.static y).before args s = true) (hinit : (Cond.initialized y.cls).before args s = true)
    (hcode : (Cond.codeWith y bytes maxL ret hh).before args s = true) (hy : y.cls ≠ "java/lang/invoke/MethodHandle" ∧ y.cls ≠ "java/lang/invoke/VarHandle")
    {W9 : Nat} {Pre : Pt → Array Value → Prop} {Post : Pt → Array Value → Option Value → Pt → Prop} (hK : Back l R p e below s args y 3 W9 Pre Post)
    {g : JFrame} (hg : g.method = m) (hsize : g.locals.size = c.maxLocals) {argsL rest : List Value} (hlen : ∀ sig, parseMethodDescriptor y.desc = some sig → argsL.length = sig.parameters.length)
    (hstack : g.stack = argsL.reverse ++ rest) (hW : 2 * g.monitorRoom + (rest.map fun v => v.category).sum ≤ W9) (hdg : decode c.code g.pc = .ok (.invokestatic index, 3))
    (hpre : ∀ vm₁, s.WarmedH vm₁ → Pre ⟨T.setVm vm₁, locs, cells, slots⟩ argsL.toArray) :
    ∃ (v : Option Value) (vm₁ : Vm) (B : Pt), s.WarmedH vm₁ ∧ Stand p l e R s m args below meth c B.U B.locs B.cells B.slots ∧ Post ⟨T.setVm vm₁, locs, cells, slots⟩ argsL.toArray v B ∧
      ∀ target, Steps p.tables e below (B.U.setTop { g with pc := g.pc + 3, stack := v.toList ++ rest }) target → Steps p.tables e below (T.setTop g) target := by
  obtain ⟨mk, methM, cM, hnamed, hmethM, -, -, -, -, -, -, hsigM⟩ := Cond.codeWith_spec hcode
  have hstatic : methM.isStatic = true := Cond.static_spec hnamed hmethM hstat
  obtain ⟨kP, hkP, -⟩ := className_of_methodNamed hnamed
  have hinitP : kP.init = .initialized := Cond.initialized_spec (findClass_of_methodNamed hnamed) hkP hinit
  obtain ⟨vm₁, X₁, hstep₁⟩ := X.invokestatic hexec hown hlink hnamed hmethM hstatic hkP hinitP hy (g := g) hg (argsL := argsL) (rest := rest) (hlen _ hsigM) hstack hdg
  obtain ⟨v, B, X', hpost, hsteps⟩ := hK m meth c ⟨T.setVm vm₁, locs, cells, slots⟩ { g with stack := rest } (.invokestatic index) mk argsL.toArray X₁ hg hsize hdg hW (X₁.named hnamed) (hpre vm₁ X₁.warmed)
  exact ⟨v, vm₁, B, X₁.warmed, X', hpost, fun target h => hstep₁ _ fun acts => by rw [doInvoke_state]; exact hsteps.trans h⟩
theorem vx_runSW {y : MethodName} {bytes cc : ByteArray} {maxL nL mc ms n index : Nat} {ret : Option FieldType} {hh : List (Nat × Nat × Nat × Nat)} {ws : List Cond} {rm : Room} {Pc : Array Value → State → Prop} {Qc : Array Value → State → Outcome → State → Prop} {free : Addr → Prop} {Ts : List Cond} {own : String} {As rest : List Value} {g : JFrame}
    (S : CallFix p m c cc nL s args Ts own) (hM : Met l y ws rm Pc Qc mc ms free) (cw : vx_CSW R s args own index y bytes maxL ret hh ws rm mc ms n) (hp : PreS s H Pc As)
    (hg : g.method = m) (hn : As.length = n) (hsize : g.locals.size = nL) (hstack : g.stack = As.reverse ++ rest) (hW : 2 * g.monitorRoom + (rest.map fun v => v.category).sum ≤ 8) (hdg : decode cc g.pc = .ok (.invokestatic index, 3)) (hf : cells + mc ≤ R.cells ∧ slots + ms ≤ R.slots) :
    va_Run p l e R s m args below meth c H locs cells slots mc ms g rest (Qc As.toArray) (free) := by
  obtain ⟨⟨hrc, hrs, hfr, hlo, hws, hcw⟩, hcode, hini, hy, hlen, hl, hstt⟩ := cw
  have hK : Back l R p e below s args y 3 8 (PreOf R mc ms Pc) (PostOf Qc mc ms free) := va_backW (hh := hh) (bytes := bytes) (maxL := maxL) (ret := ret) hM hp.1 hrc hrs hfr hlo hws hcw (fun a' U hW => word_at hW (Or.inl (by first | rfl | simp [Cond.onTables, Cond.keeps, Cond.steady])) hini)
  obtain ⟨hx, hb, hml, ho, -⟩ := S
  intro T hT X
  obtain ⟨v, vm₁, ⟨U', l2, c2, s2⟩, hW₁, X', ⟨g', mk, t, L, e1, e2, hq, h1, hL, h2, h3⟩, st⟩ := vx_callSW X hx (hh := hh) (bytes := bytes) (maxL := maxL) (ret := ret) ho hl hstt hini hcode hy hK hg (hsize.trans hml.symm) (argsL := As) (rest := rest) (fun sig h => hn.trans (hlen sig h)) hstack hW (by rw [hb]; exact hdg)
    (fun vm₁ hW₁ => ⟨hf.1, hf.2, hp.2 (T.setVm vm₁) hT hW₁⟩)
  dsimp only [Pt.U, Pt.locs, Pt.cells, Pt.slots] at X' e1 e2 h1 h2 h3 st
  subst h1; subst h2; subst h3
  exact ⟨v, (T.setVm vm₁).calling g' mk As.toArray, t, U', L, hT, X', hL, e1, e2, hq, st⟩
/-- not caught here, past rows that name other classes: it goes on to the caller -/
theorem vx_outP {p : Program} {l : Launch} {e : Env} {R : Room} {s : State} {m : MethodId} {args : Array Value} {below : List Frame} {meth : Method} {c : Code} {H : Heap} {locs : List Loc} {cells slots : Nat} {free : Addr → Prop} {ls : Array Slot} {rest : List Value} {Qc : Array Value → State → Outcome → State → Prop} {XC : String → State → State → Prop}
    {pc : Nat} {own E : String} {ce : Cell} {q : Addr} {mc ms : Nat} (hown : s.vm.findClass own = some m.cls) (hlocks : meth.locks = false)
    (hpass : ∀ z ∈ c.exceptionTable.toList, covers z pc = false ∨ (z.catchType ≠ 0 ∧ ∃ nm : String, (Cond.classLink own z.catchType nm).before args s = true ∧ va_Nc E nm s)) (hcell : H[q]? = some ce) (hv : ce.vm = .none) (hcl : s.vm.findClass E = some ce.cls)
    (hx : ∀ t : State, t.heap = H → s.vm.Alike t.vm → XC E s t) (hf : ∀ z ∈ locs, free z.base) (hc : cells ≤ mc) (hs : slots ≤ ms) :
    vx_W p l e R s m args below meth c H locs cells slots (vx_MQ below Qc XC args s mc ms free) (F0 m pc ls rest) q := by
  intro T hT X
  have hpl : e.platform.magicAccessors = ({} : Platform).magicAccessors := by rw [X.admits.platform]
  obtain ⟨vm', hW', X', st⟩ := X.outThrough hlocks q (g := F0 m pc ls rest) rfl rfl rfl (cell := ce) (by rw [hT]; exact hcell) (by rw [hv]; rfl)
    (by obtain ⟨k9, h9, -⟩ := Vm.findClass_spec hcl; exact ⟨k9, h9⟩) (fun z hz => by
      rcases hpass z hz with h | ⟨hz0, nm, hl1, hn1⟩
      · exact Or.inl h
      · obtain ⟨c6, hc6, hcl6⟩ := Cond.classLink_spec hown hl1 e.platform hpl
        obtain ⟨a8, b8, h1, h2, h3⟩ := hn1
        cases Option.some.inj (h1.symm.trans hcl)
        cases Option.some.inj (h2.symm.trans hc6)
        exact Or.inr ⟨hz0, _, hcl6, h3⟩)
  obtain ⟨g₀, hfr⟩ := X'.frames_eq
  have hcell9 : ((T.setVm vm').setFrames (.throwing q :: below)).heap[q]? = some ce := by
    show T.heap[q]? = some ce
    rw [hT]; exact hcell
  have hend : Ended ((T.setVm vm').setFrames (.throwing q :: below)) below (.threw q) := State.frames_setFrames _ (State.cur_lt_of_frames hfr)
  refine ⟨(T.setVm vm').setFrames (.throwing q :: below), ?_, .threw q, X'.here.running, hend, Or.inr ⟨q, rfl, E, ce, locs, hx _ hT (X'.ends _).1.alike, hcell9, hv, hcl, (X'.ends _).1, (X'.ends _).2.mono hc hs, hf⟩⟩
  rw [X.pushThrowing_eq]
  exact st
/-- a thing of a world lies in the heap -/
theorem vx_lt {D : va_G} {cl : List vw_C} {ws : va_W} {H1 : Heap} (h : va_P D cl ws H1) {k : Nat} {q : Nat × va_E} (hk : ws[k]? = some q) : q.1 < H1.size := (h k q hk).lt
end VXS
/-! ===== END ===== -/
/-! ===== BEGIN methods with a table of their own: called by a name, returning or throwing ===== -/
section VXH
/-! vx_backW, vx_callVX, vx_callSX, vx_callVW, vx_runVW, vx_runVX, vx_runSX, vx_ofWH follow the same proofs as their sisters above (Free/Laws.lean, Shelf42/LK1.lean); vx_outP calls Shelf42/NT130.lean (outThrough). -/
section
variable {l : Launch} {R : Room} {p : Program} {e : Env} {below : List Frame} {s : State} {sargs : Array Value} {y : MethodName} {len W9 : Nat}
theorem vx_backW {ws : List Cond} {rm : Room} {Pc : Array Value → State → Prop} {Qc : Array Value → State → Outcome → State → Prop} {XC : String → State → State → Prop} {mc ms : Nat} {free : Addr → Prop} {bytes : ByteArray} {maxL : Nat} {ret : Option FieldType} {hh : List (Nat × Nat × Nat × Nat)}
    (hM : vx_Met l y ws rm Pc Qc XC mc ms free) (hblind : FrameBlind Pc) (hrc : rm.cells = mc) (hrs : rm.slots = ms)
    (hframes : rm.frames + 1 ≤ R.frames) (hlocals : W9 + (maxL + 11) + rm.locals ≤ R.locals)
    (hws : ∀ w ∈ ws, ∀ a' U, s.WarmedH U.vm → w.before a' U = true) (hcode : Cond.codeWith y bytes maxL ret hh ∈ ws) (hinit : ∀ a' U, s.WarmedH U.vm → (Cond.initialized y.cls).before a' U = true) :
    vx_Back l R p e below s sargs y len W9 (PreOf R mc ms Pc) (PostOf Qc mc ms free) (vx_Post XC mc ms free) := by
  intro m meth c A g ig mk a X hg hsize hdg hW hn hp
  have h1 : (headSpec ws rm).pre.before a A.U = true := atoms_intro fun w hw => hws w hw _ _ X.warmed
  have h2 : (Cond.codeWith y bytes maxL ret hh).before a A.U = true := hws _ hcode _ _ X.warmed
  have h3 : (Cond.initialized y.cls).before a A.U = true := hinit _ _ X.warmed
  have h4 : A.cells + (headSpec ws rm).room.cells ≤ R.cells := by rw [show (headSpec ws rm).room.cells = mc from hrc]; exact hp.1
  have h5 : A.slots + (headSpec ws rm).room.slots ≤ R.slots := by rw [show (headSpec ws rm).room.slots = ms from hrs]; exact hp.2.1
  have hPc : Pc a (A.U.calling g mk a) := hblind _ _ _ _ hp.2.2
  obtain ⟨U, Ls, c0, s0⟩ := A
  dsimp only [Pt.U, Pt.locs, Pt.cells, Pt.slots] at h1 h2 h3 h4 h5 X hn hPc ⊢
  obtain ⟨m9, methY, cY, hn9, hmY, hcY, -, hlY, -⟩ := Cond.codeWith_spec h2
  cases Option.some.inj (hn9.symm.trans hn)
  obtain ⟨kY, hkY, -⟩ := className_of_methodNamed hn
  have hinitY : kY.init = .initialized := Cond.initialized_spec (findClass_of_methodNamed hn) hkY h3
  have h : At U g.method c below := by rw [hg]; exact X.here
  have hlocals9 : W9 + (maxL + 11) + (headSpec ws rm).room.locals ≤ R.locals := hlocals
  have happ : (headSpec ws rm).appliesLoose y e.platform (U.calling g mk a) = true :=
    Spec.appliesLoose_calling (g := g) h hdg hn hkY hinitY
      (X.room_calling (g := g) (R' := (headSpec ws rm).room) hsize hmY hcY hframes (by rw [hlY]; omega) h4 h5) h1
  obtain ⟨mid, hmid⟩ := h.above
  have hfr : (U.setTop g).frames = (.java g :: mid) ++ below := by rw [State.frames_setTop' g h.top, hmid]; rfl
  obtain ⟨o, s₂, hsteps, -, hend, hq⟩ := Steps.callFree hM p X.admits X.cas X.clock (acts := []) hfr happ hPc trivial
  have hq' : vx_Q Qc XC mc ms free a (U.calling g mk a) o s₂ := hq
  rw [State.frames_setTop' g h.top] at hend
  obtain ⟨g₀, hg0⟩ := Option.isSome_iff_exists.mp h.top
  obtain ⟨r, hr⟩ := State.topJava?_eq_some.mp hg0
  have hr' : (({ U with heap := s₂.heap, slotsUsed := s₂.slotsUsed } : State).setVm s₂.vm).frames = .java g₀ :: r := hr
  rcases hq' with ⟨hqc, L, hfe, hL⟩ | ⟨q, rfl, E, ce, L, hx, hce, hcv, hcl, hW₂, hsm, hL⟩
  · obtain ⟨⟨v, rfl⟩, hW₂, e2, q2, q3, q4, q5, q6⟩ := id hfe
    have e3 : s₂ = ({ (U.calling g mk a).setFrames s₂.frames with heap := s₂.heap, slotsUsed := s₂.slotsUsed } : State).setVm s₂.vm := by
      have : s₂ = ({ s₂ with vm := (U.calling g mk a).vm } : State).setVm s₂.vm := rfl
      rw [e2] at this
      exact this
    obtain ⟨c₂, i₂, len₂, hc₂, hd₂, hf₂⟩ := hend
    have hW' : U.WarmedH s₂.vm := hW₂
    have hcc : c₂ = c := by
      have h1 : s₂.code? g.method = U.code? g.method := by
        rw [State.code?_eq, State.code?_eq, hW'.alike.method?]
      exact Option.some.inj (hc₂.symm.trans (h1.trans h.code))
    subst hcc
    have hlen : len₂ = len := by rw [hdg] at hd₂; cases hd₂; rfl
    subst hlen
    have hs₂ : s₂ = (({ U with heap := s₂.heap, slotsUsed := s₂.slotsUsed } : State).setVm s₂.vm).setTop { g with pc := g.pc + len₂, stack := v.toList ++ g.stack } := by
      refine e3.trans ?_
      rw [hf₂, State.calling_eq h.top, State.setFrames_setFrames, State.setTop_of_frames _ hr', hr]
      rfl
    have hsame : U.sameButNew ({ U with heap := s₂.heap, slotsUsed := s₂.slotsUsed } : State) L mc ms := by
      refine ⟨?_, q2, q3, q4, q5, q6⟩
      obtain ⟨t, ht, -⟩ := State.frames_cons hr
      show ({ U with heap := s₂.heap, slotsUsed := s₂.slotsUsed } : State) = { U.setFrames U.frames with heap := s₂.heap, slotsUsed := s₂.slotsUsed }
      rw [State.setFrames_self ht]
    subst hg
    refine Or.inl ⟨v, ⟨(({ U with heap := s₂.heap, slotsUsed := s₂.slotsUsed } : State).setVm s₂.vm), Ls ++ L, c0 + mc, s0 + ms⟩,
      ⟨X.admits, X.cas, X.clock, X.frames, X.room, X.hears, X.method, X.code, (X.here.setHeapUsed s₂.heap s₂.slotsUsed).setVm hW'.alike, X.tail, State.WarmedH.trans X.warmed hW', X.limits, X.bytes, X.same.trans (hsame.setVm s.vm)⟩,
      ⟨g, mk, s₂, L, rfl, rfl, hqc, rfl, hL, rfl, rfl⟩, ?_⟩
    show Steps p.tables e below _ ((({ U with heap := s₂.heap, slotsUsed := s₂.slotsUsed } : State).setVm s₂.vm).setTop { g with pc := g.pc + len₂, stack := v.toList ++ g.stack })
    rw [← hs₂]
    exact hsteps
  · obtain ⟨e2, q2, q3, q4, q5, q6⟩ := id hsm
    have e3 : s₂ = ({ (U.calling g mk a).setFrames s₂.frames with heap := s₂.heap, slotsUsed := s₂.slotsUsed } : State).setVm s₂.vm := by
      have : s₂ = ({ s₂ with vm := (U.calling g mk a).vm } : State).setVm s₂.vm := rfl
      rw [e2] at this
      exact this
    have hf₂ : s₂.frames = .throwing q :: .java g :: U.frames.tail := hend
    have hW' : U.WarmedH s₂.vm := hW₂
    have hs₂ : s₂ = ((({ U with heap := s₂.heap, slotsUsed := s₂.slotsUsed } : State).setVm s₂.vm).setTop g).pushFrame (.throwing q) := by
      refine e3.trans ?_
      rw [hf₂, State.calling_eq h.top, State.setFrames_setFrames, State.pushFrame, State.frames_setTop _ hr', State.setTop_of_frames _ hr', State.setFrames_setFrames, hr]
      rfl
    have hsame : U.sameButNew ({ U with heap := s₂.heap, slotsUsed := s₂.slotsUsed } : State) L mc ms := by
      refine ⟨?_, q2, q3, q4, q5, q6⟩
      obtain ⟨t, ht, -⟩ := State.frames_cons hr
      show ({ U with heap := s₂.heap, slotsUsed := s₂.slotsUsed } : State) = { U.setFrames U.frames with heap := s₂.heap, slotsUsed := s₂.slotsUsed }
      rw [State.setFrames_self ht]
    subst hg
    refine Or.inr ⟨q, ⟨(({ U with heap := s₂.heap, slotsUsed := s₂.slotsUsed } : State).setVm s₂.vm), Ls ++ L, c0 + mc, s0 + ms⟩,
      ⟨X.admits, X.cas, X.clock, X.frames, X.room, X.hears, X.method, X.code, (X.here.setHeapUsed s₂.heap s₂.slotsUsed).setVm hW'.alike, X.tail, State.WarmedH.trans X.warmed hW', X.limits, X.bytes, X.same.trans (hsame.setVm s.vm)⟩,
      ⟨g, mk, s₂, L, E, ce, rfl, rfl, hx, hce, hcv, hcl, rfl, hL, rfl, rfl⟩, ?_⟩
    show Steps p.tables e below _ (((({ U with heap := s₂.heap, slotsUsed := s₂.slotsUsed } : State).setVm s₂.vm).setTop g).pushFrame (.throwing q))
    rw [← hs₂]
    exact hsteps
end
variable {p : Program} {l : Launch} {e : Env} {R : Room} {s : State} {m : MethodId} {args : Array Value} {below : List Frame} {meth : Method} {c : Code} {T : State} {H : Heap} {locs : List Loc} {cells slots : Nat}
theorem vx_callVX (X : Stand p l e R s m args below meth c T locs cells slots) (hexec : p.tables.exec = Jvm.exec) {own C : String} {index : Nat} {y : MethodName} {bytes : ByteArray} {maxL : Nat} {ret : Option FieldType} {hh : List (Nat × Nat × Nat × Nat)}
    (hown : s.vm.findClass own = some m.cls) (hlink : (Cond.methodLink own index y).before args s = true) (hinst : (Cond.instanceMethod y).before args s = true) (hsel : (Cond.selects C y y).before args s = true)
    (hcode : (Cond.codeWith y bytes maxL ret hh).before args s = true) (hy : y.cls ≠ "java/lang/invoke/MethodHandle" ∧ y.cls ≠ "java/lang/invoke/VarHandle")
    {W9 : Nat} {Pre : Pt → Array Value → Prop} {Post : Pt → Array Value → Option Value → Pt → Prop} {PostX : Pt → Array Value → Addr → Pt → Prop} (hK : vx_Back l R p e below s args y 3 W9 Pre Post PostX)
    {b : Addr} {cellB : Cell} (hcell : T.heap[b]? = some cellB) (hobj : cellB.vm.isStatics = false) (hcls : s.vm.findClass C = some cellB.cls)
    {g : JFrame} (hg : g.method = m) (hsize : g.locals.size = c.maxLocals) {argsL rest : List Value} (hlen : ∀ sig, parseMethodDescriptor y.desc = some sig → argsL.length = sig.parameters.length)
    (hstack : g.stack = argsL.reverse ++ .ref b :: rest) (hW : 2 * g.monitorRoom + (rest.map fun v => v.category).sum ≤ W9) (hdg : decode c.code g.pc = .ok (.invokevirtual index, 3))
    (hpre : ∀ vm₁, s.WarmedH vm₁ → Pre ⟨T.setVm vm₁, locs, cells, slots⟩ (Value.ref b :: argsL).toArray) :
    (∃ (v : Option Value) (vm₁ : Vm) (B : Pt), s.WarmedH vm₁ ∧ Stand p l e R s m args below meth c B.U B.locs B.cells B.slots ∧ Post ⟨T.setVm vm₁, locs, cells, slots⟩ (Value.ref b :: argsL).toArray v B ∧
      ∀ target, Steps p.tables e below (B.U.setTop { g with pc := g.pc + 3, stack := v.toList ++ rest }) target → Steps p.tables e below (T.setTop g) target) ∨
    (∃ (q : Addr) (vm₁ : Vm) (B : Pt), s.WarmedH vm₁ ∧ Stand p l e R s m args below meth c B.U B.locs B.cells B.slots ∧ PostX ⟨T.setVm vm₁, locs, cells, slots⟩ (Value.ref b :: argsL).toArray q B ∧
      Steps p.tables e below (T.setTop g) ((B.U.setTop { g with stack := rest }).pushFrame (.throwing q))) := by
  obtain ⟨mk, methM, hnamed, hmethM, hstM, habM⟩ := Cond.instanceMethod_spec hinst
  obtain ⟨m8, methM', cM, hn8, hmethM', -, -, -, -, -, -, hsigM⟩ := Cond.codeWith_spec hcode
  cases Option.some.inj (hn8.symm.trans hnamed)
  cases hmethM.symm.trans hmethM'
  obtain ⟨c2, r2, m2, q1, q2, q3, q4, kP, hkP, hkPi⟩ := Cond.selects_spec hsel
  cases hcls.symm.trans q1
  cases (State.methodFound?_of_named hnamed hy).symm.trans q2
  cases hnamed.symm.trans q3
  have hselP : selectMethod e.platform s.vm cellB.cls mk = .method mk := by rw [Launch.admits_selectMethod X.admits]; exact q4
  obtain ⟨vm₁, X₁, hstep₁⟩ := X.invokevirtual hexec hown hlink hnamed hmethM hstM hkP hkPi hy (a := b) (cell := cellB) hcell
    (fun z h => by rw [h] at hobj; cases hobj) hselP hmethM habM hkP hkPi (g := g) hg (argsL := argsL) (rest := rest) (hlen _ hsigM) hstack hdg
  rcases hK m meth c ⟨T.setVm vm₁, locs, cells, slots⟩ { g with stack := rest } (.invokevirtual index) mk (Value.ref b :: argsL).toArray X₁ hg hsize hdg hW (X₁.named hnamed) (hpre vm₁ X₁.warmed) with ⟨v, B, X', hpost, hsteps⟩ | ⟨q, B, X', hpost, hsteps⟩
  · exact Or.inl ⟨v, vm₁, B, X₁.warmed, X', hpost, fun target h => hstep₁ _ fun acts => by rw [doInvoke_state]; exact hsteps.trans h⟩
  · exact Or.inr ⟨q, vm₁, B, X₁.warmed, X', hpost, hstep₁ _ fun acts => by rw [doInvoke_state]; exact hsteps⟩
theorem vx_callSX (X : Stand p l e R s m args below meth c T locs cells slots) (hexec : p.tables.exec = Jvm.exec) {own : String} {index : Nat} {y : MethodName} {bytes : ByteArray} {maxL : Nat} {ret : Option FieldType} {hh : List (Nat × Nat × Nat × Nat)}
    (hown : s.vm.findClass own = some m.cls) (hlink : (Cond.methodLink own index y).before args s = true) (hstat : (Cond.static y).before args s = true) (hinit : (Cond.initialized y.cls).before args s = true)
    (hcode : (Cond.codeWith y bytes maxL ret hh).before args s = true) (hy : y.cls ≠ "java/lang/invoke/MethodHandle" ∧ y.cls ≠ "java/lang/invoke/VarHandle")
    {W9 : Nat} {Pre : Pt → Array Value → Prop} {Post : Pt → Array Value → Option Value → Pt → Prop} {PostX : Pt → Array Value → Addr → Pt → Prop} (hK : vx_Back l R p e below s args y 3 W9 Pre Post PostX)
    {g : JFrame} (hg : g.method = m) (hsize : g.locals.size = c.maxLocals) {argsL rest : List Value} (hlen : ∀ sig, parseMethodDescriptor y.desc = some sig → argsL.length = sig.parameters.length)
    (hstack : g.stack = argsL.reverse ++ rest) (hW : 2 * g.monitorRoom + (rest.map fun v => v.category).sum ≤ W9) (hdg : decode c.code g.pc = .ok (.invokestatic index, 3))
    (hpre : ∀ vm₁, s.WarmedH vm₁ → Pre ⟨T.setVm vm₁, locs, cells, slots⟩ argsL.toArray) :
    (∃ (v : Option Value) (vm₁ : Vm) (B : Pt), s.WarmedH vm₁ ∧ Stand p l e R s m args below meth c B.U B.locs B.cells B.slots ∧ Post ⟨T.setVm vm₁, locs, cells, slots⟩ argsL.toArray v B ∧
      ∀ target, Steps p.tables e below (B.U.setTop { g with pc := g.pc + 3, stack := v.toList ++ rest }) target → Steps p.tables e below (T.setTop g) target) ∨
    (∃ (q : Addr) (vm₁ : Vm) (B : Pt), s.WarmedH vm₁ ∧ Stand p l e R s m args below meth c B.U B.locs B.cells B.slots ∧ PostX ⟨T.setVm vm₁, locs, cells, slots⟩ argsL.toArray q B ∧
      Steps p.tables e below (T.setTop g) ((B.U.setTop { g with stack := rest }).pushFrame (.throwing q))) := by
  obtain ⟨mk, methM, cM, hnamed, hmethM, -, -, -, -, -, -, hsigM⟩ := Cond.codeWith_spec hcode
  have hstatic : methM.isStatic = true := Cond.static_spec hnamed hmethM hstat
  obtain ⟨kP, hkP, -⟩ := className_of_methodNamed hnamed
  have hinitP : kP.init = .initialized := Cond.initialized_spec (findClass_of_methodNamed hnamed) hkP hinit
  obtain ⟨vm₁, X₁, hstep₁⟩ := X.invokestatic hexec hown hlink hnamed hmethM hstatic hkP hinitP hy (g := g) hg (argsL := argsL) (rest := rest) (hlen _ hsigM) hstack hdg
  rcases hK m meth c ⟨T.setVm vm₁, locs, cells, slots⟩ { g with stack := rest } (.invokestatic index) mk argsL.toArray X₁ hg hsize hdg hW (X₁.named hnamed) (hpre vm₁ X₁.warmed) with ⟨v, B, X', hpost, hsteps⟩ | ⟨q, B, X', hpost, hsteps⟩
  · exact Or.inl ⟨v, vm₁, B, X₁.warmed, X', hpost, fun target h => hstep₁ _ fun acts => by rw [doInvoke_state]; exact hsteps.trans h⟩
  · exact Or.inr ⟨q, vm₁, B, X₁.warmed, X', hpost, hstep₁ _ fun acts => by rw [doInvoke_state]; exact hsteps⟩
theorem vx_callVW (X : Stand p l e R s m args below meth c T locs cells slots) (hexec : p.tables.exec = Jvm.exec) {own C : String} {index : Nat} {y : MethodName} {bytes : ByteArray} {maxL : Nat} {ret : Option FieldType} {hh : List (Nat × Nat × Nat × Nat)}
    (hown : s.vm.findClass own = some m.cls) (hlink : (Cond.methodLink own index y).before args s = true) (hinst : (Cond.instanceMethod y).before args s = true) (hsel : (Cond.selects C y y).before args s = true)
    (hcode : (Cond.codeWith y bytes maxL ret hh).before args s = true) (hy : y.cls ≠ "java/lang/invoke/MethodHandle" ∧ y.cls ≠ "java/lang/invoke/VarHandle")
    {W9 : Nat} {Pre : Pt → Array Value → Prop} {Post : Pt → Array Value → Option Value → Pt → Prop} (hK : Back l R p e below s args y 3 W9 Pre Post)
    {b : Addr} {cellB : Cell} (hcell : T.heap[b]? = some cellB) (hobj : cellB.vm.isStatics = false) (hcls : s.vm.findClass C = some cellB.cls)
    {g : JFrame} (hg : g.method = m) (hsize : g.locals.size = c.maxLocals) {argsL rest : List Value} (hlen : ∀ sig, parseMethodDescriptor y.desc = some sig → argsL.length = sig.parameters.length)
    (hstack : g.stack = argsL.reverse ++ .ref b :: rest) (hW : 2 * g.monitorRoom + (rest.map fun v => v.category).sum ≤ W9) (hdg : decode c.code g.pc = .ok (.invokevirtual index, 3))
    (hpre : ∀ vm₁, s.WarmedH vm₁ → Pre ⟨T.setVm vm₁, locs, cells, slots⟩ (Value.ref b :: argsL).toArray) :
    ∃ (v : Option Value) (vm₁ : Vm) (B : Pt), s.WarmedH vm₁ ∧ Stand p l e R s m args below meth c B.U B.locs B.cells B.slots ∧ Post ⟨T.setVm vm₁, locs, cells, slots⟩ (Value.ref b :: argsL).toArray v B ∧
      ∀ target, Steps p.tables e below (B.U.setTop { g with pc := g.pc + 3, stack := v.toList ++ rest }) target → Steps p.tables e below (T.setTop g) target := by
  obtain ⟨mk, methM, hnamed, hmethM, hstM, habM⟩ := Cond.instanceMethod_spec hinst
  obtain ⟨m8, methM', cM, hn8, hmethM', -, -, -, -, -, -, hsigM⟩ := Cond.codeWith_spec hcode
  cases Option.some.inj (hn8.symm.trans hnamed)
  cases hmethM.symm.trans hmethM'
  obtain ⟨c2, r2, m2, q1, q2, q3, q4, kP, hkP, hkPi⟩ := Cond.selects_spec hsel
  cases hcls.symm.trans q1
  cases (State.methodFound?_of_named hnamed hy).symm.trans q2
  cases hnamed.symm.trans q3
  have hselP : selectMethod e.platform s.vm cellB.cls mk = .method mk := by rw [Launch.admits_selectMethod X.admits]; exact q4
  obtain ⟨vm₁, X₁, hstep₁⟩ := X.invokevirtual hexec hown hlink hnamed hmethM hstM hkP hkPi hy (a := b) (cell := cellB) hcell
    (fun z h => by rw [h] at hobj; cases hobj) hselP hmethM habM hkP hkPi (g := g) hg (argsL := argsL) (rest := rest) (hlen _ hsigM) hstack hdg
  obtain ⟨v, B, X', hpost, hsteps⟩ := hK m meth c ⟨T.setVm vm₁, locs, cells, slots⟩ { g with stack := rest } (.invokevirtual index) mk (Value.ref b :: argsL).toArray X₁ hg hsize hdg hW (X₁.named hnamed) (hpre vm₁ X₁.warmed)
  exact ⟨v, vm₁, B, X₁.warmed, X', hpost, fun target h => hstep₁ _ fun acts => by rw [doInvoke_state]; exact hsteps.trans h⟩
abbrev vx_CVW (R : Room) (s : State) (args : Array Value) (own C : String) (index : Nat) (y : MethodName) (bytes : ByteArray) (maxL : Nat) (ret : Option FieldType) (hh : List (Nat × Nat × Nat × Nat)) (ws : List Cond) (rm : Room) (mc ms n : Nat) : Prop :=
  (rm.cells = mc ∧ rm.slots = ms ∧ rm.frames + 1 ≤ R.frames ∧ 8 + (maxL + 11) + rm.locals ≤ R.locals ∧ (∀ w ∈ ws, ∀ (a' : Array Value) (U : State), s.WarmedH U.vm → w.before a' U = true) ∧ Cond.codeWith y bytes maxL ret hh ∈ ws) ∧
  (Cond.codeWith y bytes maxL ret hh).before args s = true ∧ (Cond.initialized y.cls).before args s = true ∧ (y.cls ≠ "java/lang/invoke/MethodHandle" ∧ y.cls ≠ "java/lang/invoke/VarHandle") ∧
  (∀ sig, parseMethodDescriptor y.desc = some sig → n = sig.parameters.length) ∧ (Cond.methodLink own index y).before args s = true ∧ (Cond.instanceMethod y).before args s = true ∧ (Cond.selects C y y).before args s = true
theorem vx_cwVW {own C : String} {index maxL mc ms : Nat} {y : MethodName} {bytes : ByteArray} {ret : Option FieldType} {hh : List (Nat × Nat × Nat × Nat)} {Ts ws ws' : List Cond} {rm : Room} (n : Nat) (ht : ∀ w ∈ Ts, w.before args s = true) (hT : GoodIn Ts (wsV own index C y ws)) (hw : ws = Cond.codeWith y bytes maxL ret hh :: ws') (hrc : rm.cells = mc) (hrs : rm.slots = ms)
    (hd : y.cls = C ∧ y.cls ≠ "java/lang/invoke/MethodHandle" ∧ y.cls ≠ "java/lang/invoke/VarHandle" ∧ (parseMethodDescriptor y.desc).map (fun d => d.parameters.length) = some n) (hR : rm.frames + 1 ≤ R.frames ∧ 8 + (maxL + 11) + rm.locals ≤ R.locals) :
    vx_CVW R s args own C index y bytes maxL ret hh ws rm mc ms n := by
  obtain ⟨hC, hd⟩ := hd
  subst hC
  have ok : ∀ w ∈ wsV own index y.cls y ws, w.before args s = true := fun w h => ht w (hT w h).1
  have hG : GoodIn Ts ws := fun w h => hT w (by unfold wsV; exact List.mem_append_right _ h)
  have hc : Cond.codeWith y bytes maxL ret hh ∈ ws := by rw [hw]; exact List.mem_cons_self
  refine ⟨⟨hrc, hrs, hR.1, hR.2, pay_in ht hG, hc⟩, ht _ (hG _ hc).1, ok _ (by simp [wsV]), ⟨hd.1, hd.2.1⟩, fun sig h => ?_, ok _ (by simp [wsV]), ok _ (by simp [wsV]), ok _ (by simp [wsV])⟩
  have h2 := hd.2.2
  rw [h] at h2
  exact (Option.some.inj h2).symm
theorem vx_runVW {y : MethodName} {bytes cc : ByteArray} {maxL nL mc ms n index : Nat} {ret : Option FieldType} {hh : List (Nat × Nat × Nat × Nat)} {ws : List Cond} {rm : Room} {Pc : Array Value → State → Prop} {Qc : Array Value → State → Outcome → State → Prop} {free : Addr → Prop} {Ts : List Cond} {own C : String} {b : Addr} {As rest : List Value} {g : JFrame}
    (S : CallFix p m c cc nL s args Ts own) (hM : Met l y ws rm Pc Qc mc ms free) (cw : vx_CVW R s args own C index y bytes maxL ret hh ws rm mc ms n) (hp : PreV s H C b Pc As)
    (hg : g.method = m) (hn : As.length = n) (hsize : g.locals.size = nL) (hstack : g.stack = As.reverse ++ .ref b :: rest) (hW : 2 * g.monitorRoom + (rest.map fun v => v.category).sum ≤ 8) (hdg : decode cc g.pc = .ok (.invokevirtual index, 3)) (hf : cells + mc ≤ R.cells ∧ slots + ms ≤ R.slots) :
    va_Run p l e R s m args below meth c H locs cells slots mc ms g rest (Qc (Value.ref b :: As).toArray) free := by
  obtain ⟨⟨hrc, hrs, hfr, hlo, hws, hcw⟩, hcode, hini, hy, hlen, hl, hin, hse⟩ := cw
  have hK : Back l R p e below s args y 3 8 (PreOf R mc ms Pc) (PostOf Qc mc ms free) := va_backW (hh := hh) (bytes := bytes) (maxL := maxL) (ret := ret) hM hp.1 hrc hrs hfr hlo hws hcw (fun a' U hW => word_at hW (Or.inl (by first | rfl | simp [Cond.onTables, Cond.keeps, Cond.steady])) hini)
  obtain ⟨hx, hb, hml, ho, -⟩ := S
  obtain ⟨-, ⟨cellB, hcB, hoB, hclB⟩, hPc⟩ := hp
  intro T hT X
  obtain ⟨v, vm₁, ⟨U', l2, c2, s2⟩, hW₁, X', ⟨g', mk, t, L, e1, e2, hq, h1, hL, h2, h3⟩, st⟩ := vx_callVW X hx (C := C) (hh := hh) (bytes := bytes) (maxL := maxL) (ret := ret) ho hl hin hse hcode hy hK (by rw [hT]; exact hcB) hoB hclB hg (hsize.trans hml.symm) (argsL := As) (rest := rest) (fun sig h => hn.trans (hlen sig h)) hstack hW (by rw [hb]; exact hdg)
    (fun vm₁ hW₁ => ⟨hf.1, hf.2, hPc (T.setVm vm₁) hT hW₁⟩)
  dsimp only [Pt.U, Pt.locs, Pt.cells, Pt.slots] at X' e1 e2 h1 h2 h3 st
  subst h1; subst h2; subst h3
  exact ⟨v, (T.setVm vm₁).calling g' mk (Value.ref b :: As).toArray, t, U', L, hT, X', hL, e1, e2, hq, st⟩
section
variable {y : MethodName} {bytes cc : ByteArray} {maxL nL mc ms n index : Nat} {ret : Option FieldType} {ws : List Cond} {rm : Room} {Pc : Array Value → State → Prop} {Qc : Array Value → State → Outcome → State → Prop} {XC : String → State → State → Prop} {free : Addr → Prop} {Ts : List Cond} {own C : String} {b : Addr} {As rest : List Value} {g : JFrame}
theorem vx_runVX {hh : List (Nat × Nat × Nat × Nat)} (S : CallFix p m c cc nL s args Ts own) (hM : vx_Met l y ws rm Pc Qc XC mc ms free) (cw : vx_CVW R s args own C index y bytes maxL ret hh ws rm mc ms n) (hp : PreV s H C b Pc As)
    (hg : g.method = m) (hn : As.length = n) (hsize : g.locals.size = nL) (hstack : g.stack = As.reverse ++ .ref b :: rest) (hW : 2 * g.monitorRoom + (rest.map fun v => v.category).sum ≤ 8) (hdg : decode cc g.pc = .ok (.invokevirtual index, 3)) (hf : cells + mc ≤ R.cells ∧ slots + ms ≤ R.slots) :
    vx_Run p l e R s m args below meth c H locs cells slots mc ms g rest (Qc (Value.ref b :: As).toArray) XC free := by
  obtain ⟨⟨hrc, hrs, hfr, hlo, hws, hcw⟩, hcode, hini, hy, hlen, hl, hin, hse⟩ := cw
  have hK : vx_Back l R p e below s args y 3 8 (PreOf R mc ms Pc) (PostOf Qc mc ms free) (vx_Post XC mc ms free) := vx_backW (hh := hh) (bytes := bytes) (maxL := maxL) (ret := ret) hM hp.1 hrc hrs hfr hlo hws hcw (fun a' U hW => word_at hW (Or.inl (by first | rfl | simp [Cond.onTables, Cond.keeps, Cond.steady])) hini)
  obtain ⟨hx, hb, hml, ho, -⟩ := S
  obtain ⟨-, ⟨cellB, hcB, hoB, hclB⟩, hPc⟩ := hp
  intro T hT X
  rcases vx_callVX X hx (C := C) (hh := hh) (bytes := bytes) (maxL := maxL) (ret := ret) ho hl hin hse hcode hy hK (by rw [hT]; exact hcB) hoB hclB hg (hsize.trans hml.symm) (argsL := As) (rest := rest) (fun sig h => hn.trans (hlen sig h)) hstack hW (by rw [hb]; exact hdg)
    (fun vm₁ hW₁ => ⟨hf.1, hf.2, hPc (T.setVm vm₁) hT hW₁⟩) with ⟨v, vm₁, ⟨U', l2, c2, s2⟩, hW₁, X', ⟨g', mk, t, L, e1, e2, hq, h1, hL, h2, h3⟩, st⟩ | ⟨q, vm₁, ⟨U', l2, c2, s2⟩, hW₁, X', ⟨g', mk, t, L, E, ce, e1, e2, hq, hce, hcv, hcl, h1, hL, h2, h3⟩, st⟩
  · dsimp only [Pt.U, Pt.locs, Pt.cells, Pt.slots] at X' e1 e2 h1 h2 h3 st
    subst h1; subst h2; subst h3
    exact Or.inl ⟨v, (T.setVm vm₁).calling g' mk (Value.ref b :: As).toArray, t, U', L, hT, X', hL, e1, e2, hq, st⟩
  · dsimp only [Pt.U, Pt.locs, Pt.cells, Pt.slots] at X' e1 e2 h1 h2 h3 st hcl
    subst h1; subst h2; subst h3
    exact Or.inr ⟨q, (T.setVm vm₁).calling g' mk (Value.ref b :: As).toArray, t, U', L, E, ce, hT, X', hL, e1, e2, hq, hce, hcv, vx_cls hW₁ hcl, st⟩
theorem vx_runSX {hh : List (Nat × Nat × Nat × Nat)} (S : CallFix p m c cc nL s args Ts own) (hM : vx_Met l y ws rm Pc Qc XC mc ms free) (cw : vx_CSW R s args own index y bytes maxL ret hh ws rm mc ms n) (hp : PreS s H Pc As)
    (hg : g.method = m) (hn : As.length = n) (hsize : g.locals.size = nL) (hstack : g.stack = As.reverse ++ rest) (hW : 2 * g.monitorRoom + (rest.map fun v => v.category).sum ≤ 8) (hdg : decode cc g.pc = .ok (.invokestatic index, 3)) (hf : cells + mc ≤ R.cells ∧ slots + ms ≤ R.slots) :
    vx_Run p l e R s m args below meth c H locs cells slots mc ms g rest (Qc As.toArray) XC free := by
  obtain ⟨⟨hrc, hrs, hfr, hlo, hws, hcw⟩, hcode, hini, hy, hlen, hl, hstt⟩ := cw
  have hK : vx_Back l R p e below s args y 3 8 (PreOf R mc ms Pc) (PostOf Qc mc ms free) (vx_Post XC mc ms free) := vx_backW (hh := hh) (bytes := bytes) (maxL := maxL) (ret := ret) hM hp.1 hrc hrs hfr hlo hws hcw (fun a' U hW => word_at hW (Or.inl (by first | rfl | simp [Cond.onTables, Cond.keeps, Cond.steady])) hini)
  obtain ⟨hx, hb, hml, ho, -⟩ := S
  intro T hT X
  rcases vx_callSX X hx (hh := hh) (bytes := bytes) (maxL := maxL) (ret := ret) ho hl hstt hini hcode hy hK hg (hsize.trans hml.symm) (argsL := As) (rest := rest) (fun sig h => hn.trans (hlen sig h)) hstack hW (by rw [hb]; exact hdg)
    (fun vm₁ hW₁ => ⟨hf.1, hf.2, hp.2 (T.setVm vm₁) hT hW₁⟩) with ⟨v, vm₁, ⟨U', l2, c2, s2⟩, hW₁, X', ⟨g', mk, t, L, e1, e2, hq, h1, hL, h2, h3⟩, st⟩ | ⟨q, vm₁, ⟨U', l2, c2, s2⟩, hW₁, X', ⟨g', mk, t, L, E, ce, e1, e2, hq, hce, hcv, hcl, h1, hL, h2, h3⟩, st⟩
  · dsimp only [Pt.U, Pt.locs, Pt.cells, Pt.slots] at X' e1 e2 h1 h2 h3 st
    subst h1; subst h2; subst h3
    exact Or.inl ⟨v, (T.setVm vm₁).calling g' mk As.toArray, t, U', L, hT, X', hL, e1, e2, hq, st⟩
  · dsimp only [Pt.U, Pt.locs, Pt.cells, Pt.slots] at X' e1 e2 h1 h2 h3 st hcl
    subst h1; subst h2; subst h3
    exact Or.inr ⟨q, (T.setVm vm₁).calling g' mk As.toArray, t, U', L, E, ce, hT, X', hL, e1, e2, hq, hce, hcv, vx_cls hW₁ hcl, st⟩
end
end VXH
theorem vx_ofWH {l : Launch} {y : MethodName} {ws ws' : List Cond} {rm : Room} {Pc : Array Value → State → Prop} {Qc : Array Value → State → Outcome → State → Prop} {XC : String → State → State → Prop} {mc ms : Nat} {free : Addr → Prop} {cc : ByteArray} {maxL : Nat} {ret : Option FieldType} {hh : List (Nat × Nat × Nat × Nat)}
    (hy : plainName y.cls = true) (hw : ws = Cond.codeWith y cc maxL ret hh :: ws')
    (body : ∀ p e s m args below meth c s₁, BodyLoose p l y (headSpec ws rm) cc maxL ret e s m args below meth c s₁ → c.maxLocals = maxL → Pc args s →
      W p l e (headSpec ws rm).room s m args below meth c s.heap [] 0 0 (vx_MQ below Qc XC args s mc ms free) (entryFrame m args maxL)) : vx_Met l y ws rm Pc Qc XC mc ms free := by
  refine MetFree.of_bodyS (code := cc) (maxLocals := maxL) (ret := ret) hy ?_ ?_
  · intro args s m h hn
    obtain ⟨m9, meth, c, hn9, h1, h2, h3, h4, -, h5, h6, -⟩ := Cond.codeWith_spec (atoms_spec (ws := ws) h _ (by rw [hw]; exact List.mem_cons_self))
    cases hn.symm.trans hn9
    exact ⟨meth, c, h1, h2, h3, h4, h5, h6⟩
  · intro p e s m args below meth c s₁ B hml hP _
    have hh0 : s₁.heap = s.heap := by rw [B.state]; rfl
    obtain ⟨t, a1, o, b1, b2, b3⟩ := body p e s m args below meth c s₁ B hml hP s₁ hh0 (Stand.of_body B)
    exact ⟨t, o, a1, b1, b2, b3⟩
/-! ===== END ===== -/
end
section
/-! ===== BEGIN printed: names, fields, word lists, decode rows ===== -/
def RX0 : String := "SearchKeeper$Acts"
def TX0 : u_T := fun k => match k with
  | 0 => ("SearchKeeper$Acts", "order", "[I", true)
  | 1 => ("SearchKeeper$Acts", "kinds", "[I", true)
  | 2 => ("SearchKeeper$Acts", "arePutOff", "[Z", true)
  | _ => ("SearchKeeper$Acts", "many", "I", false)
def tyX0 : Nat → FieldType := fun k => match k with
  | 0 => .array .int
  | 1 => .array .int
  | 2 => .array .boolean
  | _ => .int
abbrev wsX00 : List Cond := u_ws RX0 TX0 4
theorem nmX0 : ∀ a, a < 4 → ∀ b, b < 4 → a ≠ b → (TX0 a).2.1 ≠ (TX0 b).2.1 := by decide +kernel
theorem tyX0_ok : ∀ k, k < 4 → parseFieldDescriptor (TX0 k).2.2.1 = some (tyX0 k) := by decide +kernel
abbrev cX0_init : ByteArray := prog_2_method_1_code
def yX0_init : MethodName := ⟨RX0, "<init>", "()V"⟩
abbrev cX0_count : ByteArray := prog_2_method_2_code
def yX0_count : MethodName := ⟨RX0, "count", "()I"⟩
abbrev cX0_kindOf : ByteArray := prog_2_method_3_code
def yX0_kindOf : MethodName := ⟨RX0, "kindOf", "(I)I"⟩
abbrev cX0_add : ByteArray := prog_2_method_4_code
def yX0_add : MethodName := ⟨RX0, "add", "(II)V"⟩
abbrev cX0_firstReady : ByteArray := prog_2_method_5_code
def yX0_firstReady : MethodName := ⟨RX0, "firstReady", "()I"⟩
abbrev cX0_takeAway : ByteArray := prog_2_method_6_code
def yX0_takeAway : MethodName := ⟨RX0, "takeAway", "(I)V"⟩
abbrev cX0_putOff : ByteArray := prog_2_method_7_code
def yX0_putOff : MethodName := ⟨RX0, "putOff", "(I)V"⟩
abbrev cX0_endWork : ByteArray := prog_2_method_8_code
def yX0_endWork : MethodName := ⟨RX0, "endWork", "()V"⟩
def RX1 : String := "SearchKeeper$Crawl"
def TX1 : u_T := fun k => match k with
  | 0 => ("SearchKeeper$Crawl", "waiting", "[I", true)
  | 1 => ("SearchKeeper$Crawl", "isWaiting", "[Z", true)
  | 2 => ("SearchKeeper$Crawl", "wasMet", "[Z", true)
  | 3 => ("SearchKeeper$Crawl", "many", "I", false)
  | _ => ("SearchKeeper$Crawl", "goesOn", "Z", false)
def tyX1 : Nat → FieldType := fun k => match k with
  | 0 => .array .int
  | 1 => .array .boolean
  | 2 => .array .boolean
  | 3 => .int
  | _ => .boolean
abbrev wsX10 : List Cond := u_ws RX1 TX1 5
theorem nmX1 : ∀ a, a < 5 → ∀ b, b < 5 → a ≠ b → (TX1 a).2.1 ≠ (TX1 b).2.1 := by decide +kernel
theorem tyX1_ok : ∀ k, k < 5 → parseFieldDescriptor (TX1 k).2.2.1 = some (tyX1 k) := by decide +kernel
abbrev cX1_init : ByteArray := prog_3_method_1_code
def yX1_init : MethodName := ⟨RX1, "<init>", "()V"⟩
abbrev cX1_startAnew : ByteArray := prog_3_method_2_code
def yX1_startAnew : MethodName := ⟨RX1, "startAnew", "(I)V"⟩
abbrev cX1_letWait : ByteArray := prog_3_method_3_code
def yX1_letWait : MethodName := ⟨RX1, "letWait", "(I)V"⟩
abbrev cX1_takeFirst : ByteArray := prog_3_method_4_code
def yX1_takeFirst : MethodName := ⟨RX1, "takeFirst", "()I"⟩
abbrev cX1_meet : ByteArray := prog_3_method_5_code
def yX1_meet : MethodName := ⟨RX1, "meet", "(I)V"⟩
abbrev cX1_hasMet : ByteArray := prog_3_method_6_code
def yX1_hasMet : MethodName := ⟨RX1, "hasMet", "(I)Z"⟩
def RX2 : String := "SearchKeeper$Entries"
def TX2 : u_T := fun k => match k with
  | 0 => ("SearchKeeper$Entries", "tree", "LSearchKeeper$Tree;", true)
  | 1 => ("SearchKeeper$Entries", "roots", "LSearchKeeper$Roots;", true)
  | 2 => ("SearchKeeper$Entries", "areKept", "[Z", true)
  | 3 => ("SearchKeeper$Entries", "parents", "[I", true)
  | 4 => ("SearchKeeper$Entries", "names", "[C", true)
  | 5 => ("SearchKeeper$Entries", "editions", "[I", true)
  | 6 => ("SearchKeeper$Entries", "lengths", "[I", true)
  | 7 => ("SearchKeeper$Entries", "words", "[[I", true)
  | 8 => ("SearchKeeper$Entries", "gotEdition", "[Z", true)
  | _ => ("SearchKeeper$Entries", "areGoing", "[Z", true)
def tyX2 : Nat → FieldType := fun k => match k with
  | 0 => .object "SearchKeeper$Tree"
  | 1 => .object "SearchKeeper$Roots"
  | 2 => .array .boolean
  | 3 => .array .int
  | 4 => .array .char
  | 5 => .array .int
  | 6 => .array .int
  | 7 => .array (.array .int)
  | 8 => .array .boolean
  | _ => .array .boolean
abbrev wsX20 : List Cond := u_ws RX2 TX2 10
theorem nmX2 : ∀ a, a < 10 → ∀ b, b < 10 → a ≠ b → (TX2 a).2.1 ≠ (TX2 b).2.1 := by decide +kernel
theorem tyX2_ok : ∀ k, k < 10 → parseFieldDescriptor (TX2 k).2.2.1 = some (tyX2 k) := by decide +kernel
abbrev cX2_init : ByteArray := prog_4_method_1_code
def yX2_init : MethodName := ⟨RX2, "<init>", "(LSearchKeeper$Tree;LSearchKeeper$Roots;)V"⟩
abbrev cX2_has : ByteArray := prog_4_method_2_code
def yX2_has : MethodName := ⟨RX2, "has", "(I)Z"⟩
abbrev cX2_editionOf : ByteArray := prog_4_method_3_code
def yX2_editionOf : MethodName := ⟨RX2, "editionOf", "(I)I"⟩
abbrev cX2_lengthOf : ByteArray := prog_4_method_4_code
def yX2_lengthOf : MethodName := ⟨RX2, "lengthOf", "(I)I"⟩
abbrev cX2_wordsOf : ByteArray := prog_4_method_5_code
def yX2_wordsOf : MethodName := ⟨RX2, "wordsOf", "(I)[I"⟩
abbrev cX2_count : ByteArray := prog_4_method_6_code
def yX2_count : MethodName := ⟨RX2, "count", "()I"⟩
abbrev cX2_isBehind : ByteArray := prog_4_method_7_code
def yX2_isBehind : MethodName := ⟨RX2, "isBehind", "(I)Z"⟩
abbrev cX2_countStale : ByteArray := prog_4_method_8_code
def yX2_countStale : MethodName := ⟨RX2, "countStale", "()I"⟩
abbrev cX2_isBelow : ByteArray := prog_4_method_9_code
def yX2_isBelow : MethodName := ⟨RX2, "isBelow", "(II)Z"⟩
abbrev cX2_keepPlace : ByteArray := prog_4_method_10_code
def yX2_keepPlace : MethodName := ⟨RX2, "keepPlace", "(I)V"⟩
abbrev cX2_keepEdition : ByteArray := prog_4_method_11_code
def yX2_keepEdition : MethodName := ⟨RX2, "keepEdition", "(II)V"⟩
abbrev cX2_takeAway : ByteArray := prog_4_method_12_code
def yX2_takeAway : MethodName := ⟨RX2, "takeAway", "(I)V"⟩
abbrev cX2_hasGotEdition : ByteArray := prog_4_method_13_code
def yX2_hasGotEdition : MethodName := ⟨RX2, "hasGotEdition", "(I)Z"⟩
abbrev cX2_endWork : ByteArray := prog_4_method_14_code
def yX2_endWork : MethodName := ⟨RX2, "endWork", "()V"⟩
def RX3 : String := "SearchKeeper$Index"
def TX3 : u_T := fun k => match k with
  | 0 => ("SearchKeeper$Index", "homes", "[I", true)
  | 1 => ("SearchKeeper$Index", "alive", "[I", true)
  | 2 => ("SearchKeeper$Index", "buried", "[I", true)
  | _ => ("SearchKeeper$Index", "many", "I", false)
def tyX3 : Nat → FieldType := fun k => match k with
  | 0 => .array .int
  | 1 => .array .int
  | 2 => .array .int
  | _ => .int
abbrev wsX30 : List Cond := u_ws RX3 TX3 4
theorem nmX3 : ∀ a, a < 4 → ∀ b, b < 4 → a ≠ b → (TX3 a).2.1 ≠ (TX3 b).2.1 := by decide +kernel
theorem tyX3_ok : ∀ k, k < 4 → parseFieldDescriptor (TX3 k).2.2.1 = some (tyX3 k) := by decide +kernel
abbrev cX3_init : ByteArray := prog_5_method_1_code
def yX3_init : MethodName := ⟨RX3, "<init>", "()V"⟩
abbrev cX3_count : ByteArray := prog_5_method_2_code
def yX3_count : MethodName := ⟨RX3, "count", "()I"⟩
abbrev cX3_countBuried : ByteArray := prog_5_method_3_code
def yX3_countBuried : MethodName := ⟨RX3, "countBuried", "()I"⟩
abbrev cX3_endWork : ByteArray := prog_5_method_4_code
def yX3_endWork : MethodName := ⟨RX3, "endWork", "(LSearchKeeper$Entries;)V"⟩
abbrev cX3_bury : ByteArray := prog_5_method_5_code
def yX3_bury : MethodName := ⟨RX3, "bury", "(I)V"⟩
abbrev cX3_addSegment : ByteArray := prog_5_method_6_code
def yX3_addSegment : MethodName := ⟨RX3, "addSegment", "(LSearchKeeper$Entries;)V"⟩
abbrev cX3_close : ByteArray := prog_5_method_7_code
def yX3_close : MethodName := ⟨RX3, "close", "(I)V"⟩
abbrev cX3_smallestPair : ByteArray := prog_5_method_8_code
def yX3_smallestPair : MethodName := ⟨RX3, "smallestPair", "()I"⟩
abbrev cX3_joinWithNext : ByteArray := prog_5_method_9_code
def yX3_joinWithNext : MethodName := ⟨RX3, "joinWithNext", "(I)V"⟩
def RX4 : String := "SearchKeeper$Keeper"
def TX4 : u_T := fun k => match k with
  | 0 => ("SearchKeeper$Keeper", "tree", "LSearchKeeper$Tree;", true)
  | 1 => ("SearchKeeper$Keeper", "roots", "LSearchKeeper$Roots;", true)
  | 2 => ("SearchKeeper$Keeper", "reader", "LSearchKeeper$Reader;", true)
  | 3 => ("SearchKeeper$Keeper", "known", "LSearchKeeper$Entries;", true)
  | 4 => ("SearchKeeper$Keeper", "list", "LSearchKeeper$Acts;", true)
  | _ => ("SearchKeeper$Keeper", "index", "LSearchKeeper$Index;", true)
def tyX4 : Nat → FieldType := fun k => match k with
  | 0 => .object "SearchKeeper$Tree"
  | 1 => .object "SearchKeeper$Roots"
  | 2 => .object "SearchKeeper$Reader"
  | 3 => .object "SearchKeeper$Entries"
  | 4 => .object "SearchKeeper$Acts"
  | _ => .object "SearchKeeper$Index"
abbrev wsX40 : List Cond := u_ws RX4 TX4 6
theorem nmX4 : ∀ a, a < 6 → ∀ b, b < 6 → a ≠ b → (TX4 a).2.1 ≠ (TX4 b).2.1 := by decide +kernel
theorem tyX4_ok : ∀ k, k < 6 → parseFieldDescriptor (TX4 k).2.2.1 = some (tyX4 k) := by decide +kernel
abbrev cX4_init : ByteArray := prog_6_method_1_code
def yX4_init : MethodName := ⟨RX4, "<init>", "(LSearchKeeper$Tree;LSearchKeeper$Roots;LSearchKeeper$Reader;LSearchKeeper$Entries;)V"⟩
abbrev cX4_countActs : ByteArray := prog_6_method_2_code
def yX4_countActs : MethodName := ⟨RX4, "countActs", "()I"⟩
abbrev cX4_countSegments : ByteArray := prog_6_method_3_code
def yX4_countSegments : MethodName := ⟨RX4, "countSegments", "()I"⟩
abbrev cX4_countDead : ByteArray := prog_6_method_4_code
def yX4_countDead : MethodName := ⟨RX4, "countDead", "()I"⟩
abbrev cX4_lookAtAllEntries : ByteArray := prog_6_method_5_code
def yX4_lookAtAllEntries : MethodName := ⟨RX4, "lookAtAllEntries", "()V"⟩
abbrev cX4_doSteps : ByteArray := prog_6_method_6_code
def yX4_doSteps : MethodName := ⟨RX4, "doSteps", "(I)I"⟩
abbrev cX4_doNext : ByteArray := prog_6_method_7_code
def yX4_doNext : MethodName := ⟨RX4, "doNext", "(I)I"⟩
abbrev cX4_hear : ByteArray := prog_6_method_8_code
def yX4_hear : MethodName := ⟨RX4, "hear", "(LSearchKeeper$Root;)V"⟩
abbrev cX4_act : ByteArray := prog_6_method_9_code
def yX4_act : MethodName := ⟨RX4, "act", "(II)I"⟩
abbrev cX4_lookAtFile : ByteArray := prog_6_method_10_code
def yX4_lookAtFile : MethodName := ⟨RX4, "lookAtFile", "(II)I"⟩
abbrev cX4_lookAtFolder : ByteArray := prog_6_method_11_code
def yX4_lookAtFolder : MethodName := ⟨RX4, "lookAtFolder", "(I)V"⟩
abbrev cX4_crawlOn : ByteArray := prog_6_method_12_code
def yX4_crawlOn : MethodName := ⟨RX4, "crawlOn", "(LSearchKeeper$Root;)V"⟩
abbrev cX4_meetAllIn : ByteArray := prog_6_method_13_code
def yX4_meetAllIn : MethodName := ⟨RX4, "meetAllIn", "(ILSearchKeeper$Crawl;)V"⟩
abbrev cX4_lookAtUnmet : ByteArray := prog_6_method_14_code
def yX4_lookAtUnmet : MethodName := ⟨RX4, "lookAtUnmet", "(LSearchKeeper$Crawl;)V"⟩
def RX5 : String := "SearchKeeper$Questions"
def TX5 : u_T := fun k => match k with
  | 0 => ("SearchKeeper$Questions", "tree", "LSearchKeeper$Tree;", true)
  | 1 => ("SearchKeeper$Questions", "roots", "LSearchKeeper$Roots;", true)
  | 2 => ("SearchKeeper$Questions", "reader", "LSearchKeeper$Reader;", true)
  | 3 => ("SearchKeeper$Questions", "known", "LSearchKeeper$Entries;", true)
  | 4 => ("SearchKeeper$Questions", "scores", "[I", true)
  | _ => ("SearchKeeper$Questions", "fresh", "[I", true)
def tyX5 : Nat → FieldType := fun k => match k with
  | 0 => .object "SearchKeeper$Tree"
  | 1 => .object "SearchKeeper$Roots"
  | 2 => .object "SearchKeeper$Reader"
  | 3 => .object "SearchKeeper$Entries"
  | 4 => .array .int
  | _ => .array .int
abbrev wsX50 : List Cond := u_ws RX5 TX5 6
theorem nmX5 : ∀ a, a < 6 → ∀ b, b < 6 → a ≠ b → (TX5 a).2.1 ≠ (TX5 b).2.1 := by decide +kernel
theorem tyX5_ok : ∀ k, k < 6 → parseFieldDescriptor (TX5 k).2.2.1 = some (tyX5 k) := by decide +kernel
abbrev cX5_init : ByteArray := prog_7_method_1_code
def yX5_init : MethodName := ⟨RX5, "<init>", "(LSearchKeeper$Tree;LSearchKeeper$Roots;LSearchKeeper$Reader;LSearchKeeper$Entries;)V"⟩
abbrev cX5_count : ByteArray := prog_7_method_2_code
def yX5_count : MethodName := ⟨RX5, "count", "(IIII)I"⟩
abbrev cX5_countAnew : ByteArray := prog_7_method_3_code
def yX5_countAnew : MethodName := ⟨RX5, "countAnew", "(IIII)I"⟩
abbrev cX5_fileAt : ByteArray := prog_7_method_4_code
def yX5_fileAt : MethodName := ⟨RX5, "fileAt", "(IIII)I"⟩
abbrev cX5_closestPlaces : ByteArray := prog_7_method_5_code
def yX5_closestPlaces : MethodName := ⟨RX5, "closestPlaces", "(III)I"⟩
abbrev cX5_countAhead : ByteArray := prog_7_method_6_code
def yX5_countAhead : MethodName := ⟨RX5, "countAhead", "(I)I"⟩
abbrev cX5_isWithinNow : ByteArray := prog_7_method_7_code
def yX5_isWithinNow : MethodName := ⟨RX5, "isWithinNow", "(II)Z"⟩
abbrev cX5_scoreOf : ByteArray := prog_7_method_8_code
def yX5_scoreOf : MethodName := ⟨RX5, "scoreOf", "(IIII)I"⟩
abbrev cX5_score : ByteArray := prog_7_method_9_code
def yX5_score : MethodName := ⟨RX5, "score", "([IIII)I"⟩
def RX6 : String := "SearchKeeper$Reader"
def TX6 : u_T := fun k => match k with
  | 0 => ("SearchKeeper$Reader", "depthLimit", "I", false)
  | _ => ("SearchKeeper$Reader", "wordLimit", "I", false)
def tyX6 : Nat → FieldType := fun k => match k with
  | 0 => .int
  | _ => .int
abbrev wsX60 : List Cond := u_ws RX6 TX6 2
theorem nmX6 : ∀ a, a < 2 → ∀ b, b < 2 → a ≠ b → (TX6 a).2.1 ≠ (TX6 b).2.1 := by decide +kernel
theorem tyX6_ok : ∀ k, k < 2 → parseFieldDescriptor (TX6 k).2.2.1 = some (tyX6 k) := by decide +kernel
abbrev cX6_init : ByteArray := prog_8_method_1_code
def yX6_init : MethodName := ⟨RX6, "<init>", "()V"⟩
abbrev cX6_takeWords : ByteArray := prog_8_method_2_code
def yX6_takeWords : MethodName := ⟨RX6, "takeWords", "([II[I)I"⟩
abbrev cX6_endOfWhole : ByteArray := prog_8_method_3_code
def yX6_endOfWhole : MethodName := ⟨RX6, "endOfWhole", "([II)I"⟩
def RX7 : String := "SearchKeeper$Root"
def TX7 : u_T := fun k => match k with
  | 0 => ("SearchKeeper$Root", "kinds", "[I", true)
  | 1 => ("SearchKeeper$Root", "nodes", "[I", true)
  | 2 => ("SearchKeeper$Root", "crawl", "LSearchKeeper$Crawl;", true)
  | 3 => ("SearchKeeper$Root", "folder", "I", false)
  | 4 => ("SearchKeeper$Root", "many", "I", false)
  | _ => ("SearchKeeper$Root", "isFlooded", "Z", false)
def tyX7 : Nat → FieldType := fun k => match k with
  | 0 => .array .int
  | 1 => .array .int
  | 2 => .object "SearchKeeper$Crawl"
  | 3 => .int
  | 4 => .int
  | _ => .boolean
abbrev wsX70 : List Cond := u_ws RX7 TX7 6
theorem nmX7 : ∀ a, a < 6 → ∀ b, b < 6 → a ≠ b → (TX7 a).2.1 ≠ (TX7 b).2.1 := by decide +kernel
theorem tyX7_ok : ∀ k, k < 6 → parseFieldDescriptor (TX7 k).2.2.1 = some (tyX7 k) := by decide +kernel
abbrev cX7_init : ByteArray := prog_9_method_1_code
def yX7_init : MethodName := ⟨RX7, "<init>", "()V"⟩
abbrev cX7_startAt : ByteArray := prog_9_method_2_code
def yX7_startAt : MethodName := ⟨RX7, "startAt", "(I)V"⟩
abbrev cX7_beginCrawl : ByteArray := prog_9_method_3_code
def yX7_beginCrawl : MethodName := ⟨RX7, "beginCrawl", "()V"⟩
abbrev cX7_tell : ByteArray := prog_9_method_4_code
def yX7_tell : MethodName := ⟨RX7, "tell", "(II)V"⟩
abbrev cX7_tellLastAgain : ByteArray := prog_9_method_5_code
def yX7_tellLastAgain : MethodName := ⟨RX7, "tellLastAgain", "()V"⟩
abbrev cX7_hasNotices : ByteArray := prog_9_method_6_code
def yX7_hasNotices : MethodName := ⟨RX7, "hasNotices", "()Z"⟩
abbrev cX7_countOrFlood : ByteArray := prog_9_method_7_code
def yX7_countOrFlood : MethodName := ⟨RX7, "countOrFlood", "()I"⟩
abbrev cX7_forgetLast : ByteArray := prog_9_method_8_code
def yX7_forgetLast : MethodName := ⟨RX7, "forgetLast", "(I)I"⟩
abbrev cX7_takeFirst : ByteArray := prog_9_method_9_code
def yX7_takeFirst : MethodName := ⟨RX7, "takeFirst", "()V"⟩
def RX8 : String := "SearchKeeper$Roots"
def TX8 : u_T := fun k => match k with
  | 0 => ("SearchKeeper$Roots", "tree", "LSearchKeeper$Tree;", true)
  | 1 => ("SearchKeeper$Roots", "rows", "[LSearchKeeper$Root;", true)
  | _ => ("SearchKeeper$Roots", "many", "I", false)
def tyX8 : Nat → FieldType := fun k => match k with
  | 0 => .object "SearchKeeper$Tree"
  | 1 => .array (.object "SearchKeeper$Root")
  | _ => .int
abbrev wsX80 : List Cond := u_ws RX8 TX8 3
theorem nmX8 : ∀ a, a < 3 → ∀ b, b < 3 → a ≠ b → (TX8 a).2.1 ≠ (TX8 b).2.1 := by decide +kernel
theorem tyX8_ok : ∀ k, k < 3 → parseFieldDescriptor (TX8 k).2.2.1 = some (tyX8 k) := by decide +kernel
abbrev cX8_init : ByteArray := prog_10_method_1_code
def yX8_init : MethodName := ⟨RX8, "<init>", "(LSearchKeeper$Tree;)V"⟩
abbrev cX8_count : ByteArray := prog_10_method_2_code
def yX8_count : MethodName := ⟨RX8, "count", "()I"⟩
abbrev cX8_isFull : ByteArray := prog_10_method_3_code
def yX8_isFull : MethodName := ⟨RX8, "isFull", "()Z"⟩
abbrev cX8_find : ByteArray := prog_10_method_4_code
def yX8_find : MethodName := ⟨RX8, "find", "(I)LSearchKeeper$Root;"⟩
abbrev cX8_holding : ByteArray := prog_10_method_5_code
def yX8_holding : MethodName := ⟨RX8, "holding", "(I)LSearchKeeper$Root;"⟩
abbrev cX8_above : ByteArray := prog_10_method_6_code
def yX8_above : MethodName := ⟨RX8, "above", "(I)LSearchKeeper$Root;"⟩
abbrev cX8_hasAtOrBelow : ByteArray := prog_10_method_7_code
def yX8_hasAtOrBelow : MethodName := ⟨RX8, "hasAtOrBelow", "(I)Z"⟩
abbrev cX8_firstNoisy : ByteArray := prog_10_method_8_code
def yX8_firstNoisy : MethodName := ⟨RX8, "firstNoisy", "()LSearchKeeper$Root;"⟩
abbrev cX8_firstCrawled : ByteArray := prog_10_method_9_code
def yX8_firstCrawled : MethodName := ⟨RX8, "firstCrawled", "()LSearchKeeper$Root;"⟩
abbrev cX8_countCrawls : ByteArray := prog_10_method_10_code
def yX8_countCrawls : MethodName := ⟨RX8, "countCrawls", "()I"⟩
abbrev cX8_tellAbove : ByteArray := prog_10_method_11_code
def yX8_tellAbove : MethodName := ⟨RX8, "tellAbove", "(II)V"⟩
abbrev cX8_add : ByteArray := prog_10_method_12_code
def yX8_add : MethodName := ⟨RX8, "add", "(I)V"⟩
abbrev cX8_end : ByteArray := prog_10_method_13_code
def yX8_end : MethodName := ⟨RX8, "end", "(I)V"⟩
abbrev cX8_endGone : ByteArray := prog_10_method_14_code
def yX8_endGone : MethodName := ⟨RX8, "endGone", "()Z"⟩
def RX9 : String := "SearchKeeper$Tree"
def TX9 : u_T := fun k => match k with
  | 0 => ("SearchKeeper$Tree", "parents", "[I", true)
  | 1 => ("SearchKeeper$Tree", "names", "[C", true)
  | 2 => ("SearchKeeper$Tree", "areFolders", "[Z", true)
  | 3 => ("SearchKeeper$Tree", "areThere", "[Z", true)
  | 4 => ("SearchKeeper$Tree", "areLocked", "[Z", true)
  | 5 => ("SearchKeeper$Tree", "sets", "[I", true)
  | 6 => ("SearchKeeper$Tree", "editions", "[I", true)
  | 7 => ("SearchKeeper$Tree", "lengths", "[I", true)
  | 8 => ("SearchKeeper$Tree", "texts", "[[I", true)
  | _ => ("SearchKeeper$Tree", "made", "I", false)
def tyX9 : Nat → FieldType := fun k => match k with
  | 0 => .array .int
  | 1 => .array .char
  | 2 => .array .boolean
  | 3 => .array .boolean
  | 4 => .array .boolean
  | 5 => .array .int
  | 6 => .array .int
  | 7 => .array .int
  | 8 => .array (.array .int)
  | _ => .int
abbrev wsX90 : List Cond := u_ws RX9 TX9 10
theorem nmX9 : ∀ a, a < 10 → ∀ b, b < 10 → a ≠ b → (TX9 a).2.1 ≠ (TX9 b).2.1 := by decide +kernel
theorem tyX9_ok : ∀ k, k < 10 → parseFieldDescriptor (TX9 k).2.2.1 = some (tyX9 k) := by decide +kernel
abbrev cX9_init : ByteArray := prog_11_method_1_code
def yX9_init : MethodName := ⟨RX9, "<init>", "()V"⟩
abbrev cX9_wasMade : ByteArray := prog_11_method_2_code
def yX9_wasMade : MethodName := ⟨RX9, "wasMade", "(I)Z"⟩
abbrev cX9_isThere : ByteArray := prog_11_method_3_code
def yX9_isThere : MethodName := ⟨RX9, "isThere", "(I)Z"⟩
abbrev cX9_isFolder : ByteArray := prog_11_method_4_code
def yX9_isFolder : MethodName := ⟨RX9, "isFolder", "(I)Z"⟩
abbrev cX9_isFile : ByteArray := prog_11_method_5_code
def yX9_isFile : MethodName := ⟨RX9, "isFile", "(I)Z"⟩
abbrev cX9_isLocked : ByteArray := prog_11_method_6_code
def yX9_isLocked : MethodName := ⟨RX9, "isLocked", "(I)Z"⟩
abbrev cX9_isFull : ByteArray := prog_11_method_7_code
def yX9_isFull : MethodName := ⟨RX9, "isFull", "()Z"⟩
abbrev cX9_parentOf : ByteArray := prog_11_method_8_code
def yX9_parentOf : MethodName := ⟨RX9, "parentOf", "(I)I"⟩
abbrev cX9_nameOf : ByteArray := prog_11_method_9_code
def yX9_nameOf : MethodName := ⟨RX9, "nameOf", "(I)C"⟩
abbrev cX9_peopleOf : ByteArray := prog_11_method_10_code
def yX9_peopleOf : MethodName := ⟨RX9, "peopleOf", "(I)I"⟩
abbrev cX9_editionOf : ByteArray := prog_11_method_11_code
def yX9_editionOf : MethodName := ⟨RX9, "editionOf", "(I)I"⟩
abbrev cX9_lengthOf : ByteArray := prog_11_method_12_code
def yX9_lengthOf : MethodName := ⟨RX9, "lengthOf", "(I)I"⟩
abbrev cX9_textOf : ByteArray := prog_11_method_13_code
def yX9_textOf : MethodName := ⟨RX9, "textOf", "(I)[I"⟩
abbrev cX9_findIn : ByteArray := prog_11_method_14_code
def yX9_findIn : MethodName := ⟨RX9, "findIn", "(IC)I"⟩
abbrev cX9_isBelow : ByteArray := prog_11_method_15_code
def yX9_isBelow : MethodName := ⟨RX9, "isBelow", "(II)Z"⟩
abbrev cX9_isOpenTo : ByteArray := prog_11_method_16_code
def yX9_isOpenTo : MethodName := ⟨RX9, "isOpenTo", "(II)Z"⟩
abbrev cX9_countThere : ByteArray := prog_11_method_17_code
def yX9_countThere : MethodName := ⟨RX9, "countThere", "()I"⟩
abbrev cX9_add : ByteArray := prog_11_method_18_code
def yX9_add : MethodName := ⟨RX9, "add", "(ICZ)I"⟩
abbrev cX9_put : ByteArray := prog_11_method_19_code
def yX9_put : MethodName := ⟨RX9, "put", "(IIC)V"⟩
abbrev cX9_append : ByteArray := prog_11_method_20_code
def yX9_append : MethodName := ⟨RX9, "append", "(II)V"⟩
abbrev cX9_clearText : ByteArray := prog_11_method_21_code
def yX9_clearText : MethodName := ⟨RX9, "clearText", "(I)V"⟩
abbrev cX9_setLocked : ByteArray := prog_11_method_22_code
def yX9_setLocked : MethodName := ⟨RX9, "setLocked", "(IZ)V"⟩
abbrev cX9_setPeople : ByteArray := prog_11_method_23_code
def yX9_setPeople : MethodName := ⟨RX9, "setPeople", "(II)V"⟩
abbrev cX9_takeAway : ByteArray := prog_11_method_24_code
def yX9_takeAway : MethodName := ⟨RX9, "takeAway", "(I)I"⟩
def RX10 : String := "SearchKeeper"
def TX10 : u_T := fun k => match k with
  | 0 => ("SearchKeeper", "tree", "LSearchKeeper$Tree;", true)
  | 1 => ("SearchKeeper", "roots", "LSearchKeeper$Roots;", true)
  | 2 => ("SearchKeeper", "reader", "LSearchKeeper$Reader;", true)
  | 3 => ("SearchKeeper", "known", "LSearchKeeper$Entries;", true)
  | 4 => ("SearchKeeper", "keeper", "LSearchKeeper$Keeper;", true)
  | 5 => ("SearchKeeper", "questions", "LSearchKeeper$Questions;", true)
  | 6 => ("SearchKeeper", "minute", "I", false)
  | 7 => ("SearchKeeper", "isOnBattery", "Z", false)
  | _ => ("SearchKeeper", "batterySteps", "I", false)
def tyX10 : Nat → FieldType := fun k => match k with
  | 0 => .object "SearchKeeper$Tree"
  | 1 => .object "SearchKeeper$Roots"
  | 2 => .object "SearchKeeper$Reader"
  | 3 => .object "SearchKeeper$Entries"
  | 4 => .object "SearchKeeper$Keeper"
  | 5 => .object "SearchKeeper$Questions"
  | 6 => .int
  | 7 => .boolean
  | _ => .int
abbrev wsX100 : List Cond := u_ws RX10 TX10 9
theorem nmX10 : ∀ a, a < 9 → ∀ b, b < 9 → a ≠ b → (TX10 a).2.1 ≠ (TX10 b).2.1 := by decide +kernel
theorem tyX10_ok : ∀ k, k < 9 → parseFieldDescriptor (TX10 k).2.2.1 = some (tyX10 k) := by decide +kernel
abbrev cX10_init : ByteArray := prog_1_method_1_code
def yX10_init : MethodName := ⟨RX10, "<init>", "()V"⟩
abbrev cX10_make : ByteArray := prog_1_method_2_code
def yX10_make : MethodName := ⟨RX10, "make", "(ICZ)I"⟩
abbrev cX10_write : ByteArray := prog_1_method_3_code
def yX10_write : MethodName := ⟨RX10, "write", "(II)I"⟩
abbrev cX10_empty : ByteArray := prog_1_method_4_code
def yX10_empty : MethodName := ⟨RX10, "empty", "(I)I"⟩
abbrev cX10_move : ByteArray := prog_1_method_5_code
def yX10_move : MethodName := ⟨RX10, "move", "(IIC)I"⟩
abbrev cX10_remove : ByteArray := prog_1_method_6_code
def yX10_remove : MethodName := ⟨RX10, "remove", "(I)I"⟩
abbrev cX10_lock : ByteArray := prog_1_method_7_code
def yX10_lock : MethodName := ⟨RX10, "lock", "(IZ)Z"⟩
abbrev cX10_people : ByteArray := prog_1_method_8_code
def yX10_people : MethodName := ⟨RX10, "people", "(II)I"⟩
abbrev cX10_mayRead : ByteArray := prog_1_method_9_code
def yX10_mayRead : MethodName := ⟨RX10, "mayRead", "(II)Z"⟩
abbrev cX10_nodes : ByteArray := prog_1_method_10_code
def yX10_nodes : MethodName := ⟨RX10, "nodes", "()I"⟩
abbrev cX10_watch : ByteArray := prog_1_method_11_code
def yX10_watch : MethodName := ⟨RX10, "watch", "(I)I"⟩
abbrev cX10_notices : ByteArray := prog_1_method_12_code
def yX10_notices : MethodName := ⟨RX10, "notices", "(I)I"⟩
abbrev cX10_twice : ByteArray := prog_1_method_13_code
def yX10_twice : MethodName := ⟨RX10, "twice", "(I)I"⟩
abbrev cX10_lose : ByteArray := prog_1_method_14_code
def yX10_lose : MethodName := ⟨RX10, "lose", "(II)I"⟩
abbrev cX10_pass : ByteArray := prog_1_method_15_code
def yX10_pass : MethodName := ⟨RX10, "pass", "(I)I"⟩
abbrev cX10_battery : ByteArray := prog_1_method_16_code
def yX10_battery : MethodName := ⟨RX10, "battery", "(Z)Z"⟩
abbrev cX10_limits : ByteArray := prog_1_method_17_code
def yX10_limits : MethodName := ⟨RX10, "limits", "(II)I"⟩
abbrev cX10_work : ByteArray := prog_1_method_18_code
def yX10_work : MethodName := ⟨RX10, "work", "(I)I"⟩
abbrev cX10_crawl : ByteArray := prog_1_method_19_code
def yX10_crawl : MethodName := ⟨RX10, "crawl", "(I)I"⟩
abbrev cX10_acts : ByteArray := prog_1_method_20_code
def yX10_acts : MethodName := ⟨RX10, "acts", "()I"⟩
abbrev cX10_isQuiet : ByteArray := prog_1_method_21_code
def yX10_isQuiet : MethodName := ⟨RX10, "isQuiet", "()Z"⟩
abbrev cX10_entries : ByteArray := prog_1_method_22_code
def yX10_entries : MethodName := ⟨RX10, "entries", "()I"⟩
abbrev cX10_edition : ByteArray := prog_1_method_23_code
def yX10_edition : MethodName := ⟨RX10, "edition", "(I)I"⟩
abbrev cX10_stale : ByteArray := prog_1_method_24_code
def yX10_stale : MethodName := ⟨RX10, "stale", "()I"⟩
abbrev cX10_segments : ByteArray := prog_1_method_25_code
def yX10_segments : MethodName := ⟨RX10, "segments", "()I"⟩
abbrev cX10_dead : ByteArray := prog_1_method_26_code
def yX10_dead : MethodName := ⟨RX10, "dead", "()I"⟩
abbrev cX10_answers : ByteArray := prog_1_method_27_code
def yX10_answers : MethodName := ⟨RX10, "answers", "(IIII)I"⟩
abbrev cX10_answersAnew : ByteArray := prog_1_method_28_code
def yX10_answersAnew : MethodName := ⟨RX10, "answersAnew", "(IIII)I"⟩
abbrev cX10_answer : ByteArray := prog_1_method_29_code
def yX10_answer : MethodName := ⟨RX10, "answer", "(IIII)I"⟩
abbrev cX10_closest : ByteArray := prog_1_method_30_code
def yX10_closest : MethodName := ⟨RX10, "closest", "(IIII)I"⟩
abbrev cX10_isMadeOrNone : ByteArray := prog_1_method_31_code
def yX10_isMadeOrNone : MethodName := ⟨RX10, "isMadeOrNone", "(I)Z"⟩
abbrev cX10_isName : ByteArray := prog_1_method_32_code
def yX10_isName : MethodName := ⟨RX10, "isName", "(C)Z"⟩
abbrev cX10_isPerson : ByteArray := prog_1_method_33_code
def yX10_isPerson : MethodName := ⟨RX10, "isPerson", "(I)Z"⟩
abbrev cX10_isWord : ByteArray := prog_1_method_34_code
def yX10_isWord : MethodName := ⟨RX10, "isWord", "(I)Z"⟩
abbrev cX10_isWordOrNone : ByteArray := prog_1_method_35_code
def yX10_isWordOrNone : MethodName := ⟨RX10, "isWordOrNone", "(I)Z"⟩
def RX11 : String := "SearchKeeperModel"
def TX11 : u_T := fun k => match k with
  | 0 => ("SearchKeeperModel", "thrown", "I", false)
  | 1 => ("SearchKeeperModel", "minute", "I", false)
  | 2 => ("SearchKeeperModel", "made", "I", false)
  | 3 => ("SearchKeeperModel", "isThere", "[Z", true)
  | 4 => ("SearchKeeperModel", "isFolder", "[Z", true)
  | 5 => ("SearchKeeperModel", "parents", "[I", true)
  | 6 => ("SearchKeeperModel", "names", "[C", true)
  | 7 => ("SearchKeeperModel", "editions", "[I", true)
  | 8 => ("SearchKeeperModel", "markMany", "[I", true)
  | 9 => ("SearchKeeperModel", "marks", "[I", true)
  | 10 => ("SearchKeeperModel", "isLocked", "[Z", true)
  | 11 => ("SearchKeeperModel", "allowed", "[I", true)
  | 12 => ("SearchKeeperModel", "rootMany", "I", false)
  | 13 => ("SearchKeeperModel", "roots", "[I", true)
  | 14 => ("SearchKeeperModel", "noticeMany", "[I", true)
  | 15 => ("SearchKeeperModel", "noticeKinds", "[I", true)
  | 16 => ("SearchKeeperModel", "noticeNodes", "[I", true)
  | 17 => ("SearchKeeperModel", "isFlooded", "[Z", true)
  | 18 => ("SearchKeeperModel", "crawls", "[Z", true)
  | 19 => ("SearchKeeperModel", "waitMany", "[I", true)
  | 20 => ("SearchKeeperModel", "waits", "[I", true)
  | 21 => ("SearchKeeperModel", "met", "[Z", true)
  | 22 => ("SearchKeeperModel", "hasEntry", "[Z", true)
  | 23 => ("SearchKeeperModel", "knownParents", "[I", true)
  | 24 => ("SearchKeeperModel", "knownNames", "[C", true)
  | 25 => ("SearchKeeperModel", "knownEditions", "[I", true)
  | 26 => ("SearchKeeperModel", "wordMany", "[I", true)
  | 27 => ("SearchKeeperModel", "words", "[I", true)
  | 28 => ("SearchKeeperModel", "depthLimit", "I", false)
  | 29 => ("SearchKeeperModel", "wordLimit", "I", false)
  | 30 => ("SearchKeeperModel", "actMany", "I", false)
  | 31 => ("SearchKeeperModel", "actNodes", "[I", true)
  | 32 => ("SearchKeeperModel", "actKinds", "[I", true)
  | 33 => ("SearchKeeperModel", "isPutOff", "[Z", true)
  | 34 => ("SearchKeeperModel", "isOnBattery", "Z", false)
  | 35 => ("SearchKeeperModel", "hour", "I", false)
  | 36 => ("SearchKeeperModel", "hourly", "I", false)
  | 37 => ("SearchKeeperModel", "placeMany", "I", false)
  | 38 => ("SearchKeeperModel", "placeSegments", "[I", true)
  | 39 => ("SearchKeeperModel", "placeNodes", "[I", true)
  | 40 => ("SearchKeeperModel", "placeDead", "[Z", true)
  | 41 => ("SearchKeeperModel", "segmentMany", "I", false)
  | 42 => ("SearchKeeperModel", "isRead", "[Z", true)
  | 43 => ("SearchKeeperModel", "leaving", "[Z", true)
  | 44 => ("SearchKeeperModel", "takenMany", "I", false)
  | _ => ("SearchKeeperModel", "taken", "[I", true)
def tyX11 : Nat → FieldType := fun k => match k with
  | 0 => .int
  | 1 => .int
  | 2 => .int
  | 3 => .array .boolean
  | 4 => .array .boolean
  | 5 => .array .int
  | 6 => .array .char
  | 7 => .array .int
  | 8 => .array .int
  | 9 => .array .int
  | 10 => .array .boolean
  | 11 => .array .int
  | 12 => .int
  | 13 => .array .int
  | 14 => .array .int
  | 15 => .array .int
  | 16 => .array .int
  | 17 => .array .boolean
  | 18 => .array .boolean
  | 19 => .array .int
  | 20 => .array .int
  | 21 => .array .boolean
  | 22 => .array .boolean
  | 23 => .array .int
  | 24 => .array .char
  | 25 => .array .int
  | 26 => .array .int
  | 27 => .array .int
  | 28 => .int
  | 29 => .int
  | 30 => .int
  | 31 => .array .int
  | 32 => .array .int
  | 33 => .array .boolean
  | 34 => .boolean
  | 35 => .int
  | 36 => .int
  | 37 => .int
  | 38 => .array .int
  | 39 => .array .int
  | 40 => .array .boolean
  | 41 => .int
  | 42 => .array .boolean
  | 43 => .array .boolean
  | 44 => .int
  | _ => .array .int
abbrev wsX110 : List Cond := u_ws RX11 TX11 46
theorem nmX11 : ∀ a, a < 46 → ∀ b, b < 46 → a ≠ b → (TX11 a).2.1 ≠ (TX11 b).2.1 := by decide +kernel
theorem tyX11_ok : ∀ k, k < 46 → parseFieldDescriptor (TX11 k).2.2.1 = some (tyX11 k) := by decide +kernel
abbrev cX11_init : ByteArray := prog_13_method_1_code
def yX11_init : MethodName := ⟨RX11, "<init>", "()V"⟩
abbrev cX11_thrown : ByteArray := prog_13_method_2_code
def yX11_thrown : MethodName := ⟨RX11, "thrown", "()I"⟩
abbrev cX11_fails : ByteArray := prog_13_method_3_code
def yX11_fails : MethodName := ⟨RX11, "fails", "(I)I"⟩
abbrev cX11_in : ByteArray := prog_13_method_4_code
def yX11_in : MethodName := ⟨RX11, "in", "(III)Z"⟩
abbrev cX11_isNode : ByteArray := prog_13_method_5_code
def yX11_isNode : MethodName := ⟨RX11, "isNode", "(I)Z"⟩
abbrev cX11_isFolderAt : ByteArray := prog_13_method_6_code
def yX11_isFolderAt : MethodName := ⟨RX11, "isFolderAt", "(I)Z"⟩
abbrev cX11_isFileAt : ByteArray := prog_13_method_7_code
def yX11_isFileAt : MethodName := ⟨RX11, "isFileAt", "(I)Z"⟩
abbrev cX11_isBelow : ByteArray := prog_13_method_8_code
def yX11_isBelow : MethodName := ⟨RX11, "isBelow", "(II)Z"⟩
abbrev cX11_rootAt : ByteArray := prog_13_method_9_code
def yX11_rootAt : MethodName := ⟨RX11, "rootAt", "(I)I"⟩
abbrev cX11_over : ByteArray := prog_13_method_10_code
def yX11_over : MethodName := ⟨RX11, "over", "(I)I"⟩
abbrev cX11_isTaken : ByteArray := prog_13_method_11_code
def yX11_isTaken : MethodName := ⟨RX11, "isTaken", "(ICI)Z"⟩
abbrev cX11_comes : ByteArray := prog_13_method_12_code
def yX11_comes : MethodName := ⟨RX11, "comes", "(III)V"⟩
abbrev cX11_make : ByteArray := prog_13_method_13_code
def yX11_make : MethodName := ⟨RX11, "make", "(ICZ)I"⟩
abbrev cX11_write : ByteArray := prog_13_method_14_code
def yX11_write : MethodName := ⟨RX11, "write", "(II)I"⟩
abbrev cX11_empty : ByteArray := prog_13_method_15_code
def yX11_empty : MethodName := ⟨RX11, "empty", "(I)I"⟩
abbrev cX11_holdsRoot : ByteArray := prog_13_method_16_code
def yX11_holdsRoot : MethodName := ⟨RX11, "holdsRoot", "(I)Z"⟩
abbrev cX11_move : ByteArray := prog_13_method_17_code
def yX11_move : MethodName := ⟨RX11, "move", "(IIC)I"⟩
abbrev cX11_remove : ByteArray := prog_13_method_18_code
def yX11_remove : MethodName := ⟨RX11, "remove", "(I)I"⟩
abbrev cX11_lock : ByteArray := prog_13_method_19_code
def yX11_lock : MethodName := ⟨RX11, "lock", "(IZ)Z"⟩
abbrev cX11_people : ByteArray := prog_13_method_20_code
def yX11_people : MethodName := ⟨RX11, "people", "(II)I"⟩
abbrev cX11_mayReadAt : ByteArray := prog_13_method_21_code
def yX11_mayReadAt : MethodName := ⟨RX11, "mayReadAt", "(II)Z"⟩
abbrev cX11_mayRead : ByteArray := prog_13_method_22_code
def yX11_mayRead : MethodName := ⟨RX11, "mayRead", "(II)Z"⟩
abbrev cX11_nodes : ByteArray := prog_13_method_23_code
def yX11_nodes : MethodName := ⟨RX11, "nodes", "()I"⟩
abbrev cX11_drops : ByteArray := prog_13_method_24_code
def yX11_drops : MethodName := ⟨RX11, "drops", "(I)V"⟩
abbrev cX11_looksAtLost : ByteArray := prog_13_method_25_code
def yX11_looksAtLost : MethodName := ⟨RX11, "looksAtLost", "()V"⟩
abbrev cX11_beginsCrawl : ByteArray := prog_13_method_26_code
def yX11_beginsCrawl : MethodName := ⟨RX11, "beginsCrawl", "(I)V"⟩
abbrev cX11_watch : ByteArray := prog_13_method_27_code
def yX11_watch : MethodName := ⟨RX11, "watch", "(I)I"⟩
abbrev cX11_notices : ByteArray := prog_13_method_28_code
def yX11_notices : MethodName := ⟨RX11, "notices", "(I)I"⟩
abbrev cX11_twice : ByteArray := prog_13_method_29_code
def yX11_twice : MethodName := ⟨RX11, "twice", "(I)I"⟩
abbrev cX11_lose : ByteArray := prog_13_method_30_code
def yX11_lose : MethodName := ⟨RX11, "lose", "(II)I"⟩
abbrev cX11_liesBelow : ByteArray := prog_13_method_31_code
def yX11_liesBelow : MethodName := ⟨RX11, "liesBelow", "(II)Z"⟩
abbrev cX11_adds : ByteArray := prog_13_method_32_code
def yX11_adds : MethodName := ⟨RX11, "adds", "(II)V"⟩
abbrev cX11_firstAct : ByteArray := prog_13_method_33_code
def yX11_firstAct : MethodName := ⟨RX11, "firstAct", "()I"⟩
abbrev cX11_takesAct : ByteArray := prog_13_method_34_code
def yX11_takesAct : MethodName := ⟨RX11, "takesAct", "(I)V"⟩
abbrev cX11_forgets : ByteArray := prog_13_method_35_code
def yX11_forgets : MethodName := ⟨RX11, "forgets", "(I)V"⟩
abbrev cX11_kills : ByteArray := prog_13_method_36_code
def yX11_kills : MethodName := ⟨RX11, "kills", "(I)V"⟩
abbrev cX11_takesWords : ByteArray := prog_13_method_37_code
def yX11_takesWords : MethodName := ⟨RX11, "takesWords", "(I)V"⟩
abbrev cX11_places : ByteArray := prog_13_method_38_code
def yX11_places : MethodName := ⟨RX11, "places", "(I)V"⟩
abbrev cX11_isKnown : ByteArray := prog_13_method_39_code
def yX11_isKnown : MethodName := ⟨RX11, "isKnown", "(I)Z"⟩
abbrev cX11_cost : ByteArray := prog_13_method_40_code
def yX11_cost : MethodName := ⟨RX11, "cost", "(I)I"⟩
abbrev cX11_acts : ByteArray := prog_13_method_41_code
def yX11_acts : MethodName := ⟨RX11, "acts", "(I)V"⟩
abbrev cX11_reads : ByteArray := prog_13_method_42_code
def yX11_reads : MethodName := ⟨RX11, "reads", "(I)V"⟩
abbrev cX11_isWaiting : ByteArray := prog_13_method_43_code
def yX11_isWaiting : MethodName := ⟨RX11, "isWaiting", "(II)Z"⟩
abbrev cX11_goesOn : ByteArray := prog_13_method_44_code
def yX11_goesOn : MethodName := ⟨RX11, "goesOn", "(I)V"⟩
abbrev cX11_firstNoticed : ByteArray := prog_13_method_45_code
def yX11_firstNoticed : MethodName := ⟨RX11, "firstNoticed", "()I"⟩
abbrev cX11_firstCrawl : ByteArray := prog_13_method_46_code
def yX11_firstCrawl : MethodName := ⟨RX11, "firstCrawl", "()I"⟩
abbrev cX11_notes : ByteArray := prog_13_method_47_code
def yX11_notes : MethodName := ⟨RX11, "notes", "(I)V"⟩
abbrev cX11_does : ByteArray := prog_13_method_48_code
def yX11_does : MethodName := ⟨RX11, "does", "(I)I"⟩
abbrev cX11_pass : ByteArray := prog_13_method_49_code
def yX11_pass : MethodName := ⟨RX11, "pass", "(I)I"⟩
abbrev cX11_battery : ByteArray := prog_13_method_50_code
def yX11_battery : MethodName := ⟨RX11, "battery", "(Z)Z"⟩
abbrev cX11_limits : ByteArray := prog_13_method_51_code
def yX11_limits : MethodName := ⟨RX11, "limits", "(II)I"⟩
abbrev cX11_work : ByteArray := prog_13_method_52_code
def yX11_work : MethodName := ⟨RX11, "work", "(I)I"⟩
abbrev cX11_crawl : ByteArray := prog_13_method_53_code
def yX11_crawl : MethodName := ⟨RX11, "crawl", "(I)I"⟩
abbrev cX11_acts_ : ByteArray := prog_13_method_54_code
def yX11_acts_ : MethodName := ⟨RX11, "acts", "()I"⟩
abbrev cX11_isQuiet : ByteArray := prog_13_method_55_code
def yX11_isQuiet : MethodName := ⟨RX11, "isQuiet", "()Z"⟩
abbrev cX11_entries : ByteArray := prog_13_method_56_code
def yX11_entries : MethodName := ⟨RX11, "entries", "()I"⟩
abbrev cX11_edition : ByteArray := prog_13_method_57_code
def yX11_edition : MethodName := ⟨RX11, "edition", "(I)I"⟩
abbrev cX11_stale : ByteArray := prog_13_method_58_code
def yX11_stale : MethodName := ⟨RX11, "stale", "()I"⟩
abbrev cX11_count : ByteArray := prog_13_method_59_code
def yX11_count : MethodName := ⟨RX11, "count", "(IZ)I"⟩
abbrev cX11_takesPlace : ByteArray := prog_13_method_60_code
def yX11_takesPlace : MethodName := ⟨RX11, "takesPlace", "(I)V"⟩
abbrev cX11_cleans : ByteArray := prog_13_method_61_code
def yX11_cleans : MethodName := ⟨RX11, "cleans", "(I)V"⟩
abbrev cX11_joins : ByteArray := prog_13_method_62_code
def yX11_joins : MethodName := ⟨RX11, "joins", "(I)V"⟩
abbrev cX11_indexes : ByteArray := prog_13_method_63_code
def yX11_indexes : MethodName := ⟨RX11, "indexes", "()V"⟩
abbrev cX11_segments : ByteArray := prog_13_method_64_code
def yX11_segments : MethodName := ⟨RX11, "segments", "()I"⟩
abbrev cX11_dead : ByteArray := prog_13_method_65_code
def yX11_dead : MethodName := ⟨RX11, "dead", "()I"⟩
abbrev cX11_areWords : ByteArray := prog_13_method_66_code
def yX11_areWords : MethodName := ⟨RX11, "areWords", "(II)Z"⟩
abbrev cX11_often : ByteArray := prog_13_method_67_code
def yX11_often : MethodName := ⟨RX11, "often", "(II)I"⟩
abbrev cX11_has : ByteArray := prog_13_method_68_code
def yX11_has : MethodName := ⟨RX11, "has", "(III)Z"⟩
abbrev cX11_score : ByteArray := prog_13_method_69_code
def yX11_score : MethodName := ⟨RX11, "score", "(III)I"⟩
abbrev cX11_isAnswer : ByteArray := prog_13_method_70_code
def yX11_isAnswer : MethodName := ⟨RX11, "isAnswer", "(IIIII)Z"⟩
abbrev cX11_canAsk : ByteArray := prog_13_method_71_code
def yX11_canAsk : MethodName := ⟨RX11, "canAsk", "(IIII)Z"⟩
abbrev cX11_answers : ByteArray := prog_13_method_72_code
def yX11_answers : MethodName := ⟨RX11, "answers", "(IIII)I"⟩
abbrev cX11_answersAnew : ByteArray := prog_13_method_73_code
def yX11_answersAnew : MethodName := ⟨RX11, "answersAnew", "(IIII)I"⟩
abbrev cX11_answer : ByteArray := prog_13_method_74_code
def yX11_answer : MethodName := ⟨RX11, "answer", "(IIII)I"⟩
abbrev cX11_closest : ByteArray := prog_13_method_75_code
def yX11_closest : MethodName := ⟨RX11, "closest", "(IIII)I"⟩
abbrev cX11_isCloser : ByteArray := prog_13_method_76_code
def yX11_isCloser : MethodName := ⟨RX11, "isCloser", "(IIII)Z"⟩
def RJ9 : String := "java/lang/Math"
def TJ9 : u_T := fun k => match k with
  | _ => ("", "", "", false)
def tyJ9 : Nat → FieldType := fun k => match k with
  | _ => .int
abbrev wsJ90 : List Cond := u_ws RJ9 TJ9 0
theorem nmJ9 : ∀ a, a < 0 → ∀ b, b < 0 → a ≠ b → (TJ9 a).2.1 ≠ (TJ9 b).2.1 := by decide +kernel
theorem tyJ9_ok : ∀ k, k < 0 → parseFieldDescriptor (TJ9 k).2.2.1 = some (tyJ9 k) := by decide +kernel
abbrev cJ9_abs_0f7a4 : ByteArray := prog_18_method_59_code
def yJ9_abs_0f7a4 : MethodName := ⟨RJ9, "abs", "(I)I"⟩
abbrev cJ9_max_7cf53 : ByteArray := prog_18_method_65_code
def yJ9_max_7cf53 : MethodName := ⟨RJ9, "max", "(II)I"⟩
abbrev cJ9_min_7cf53 : ByteArray := prog_18_method_69_code
def yJ9_min_7cf53 : MethodName := ⟨RJ9, "min", "(II)I"⟩
def RJ0 : String := "java/lang/String"
def TJ0 : u_T := fun k => match k with
  | _ => ("", "", "", false)
def tyJ0 : Nat → FieldType := fun k => match k with
  | _ => .int
abbrev wsJ00 : List Cond := u_ws RJ0 TJ0 0
theorem nmJ0 : ∀ a, a < 0 → ∀ b, b < 0 → a ≠ b → (TJ0 a).2.1 ≠ (TJ0 b).2.1 := by decide +kernel
theorem tyJ0_ok : ∀ k, k < 0 → parseFieldDescriptor (TJ0 k).2.2.1 = some (tyJ0 k) := by decide +kernel
def RL : String := "SearchKeeperLaw"
abbrev cL_make : ByteArray := method_3_code
def yL_make : MethodName := ⟨RL, "make", "(LSearchKeeper;ICZ[J)I"⟩
abbrev cL_write : ByteArray := method_4_code
def yL_write : MethodName := ⟨RL, "write", "(LSearchKeeper;II[J)I"⟩
abbrev cL_empty : ByteArray := method_5_code
def yL_empty : MethodName := ⟨RL, "empty", "(LSearchKeeper;I[J)I"⟩
abbrev cL_move : ByteArray := method_6_code
def yL_move : MethodName := ⟨RL, "move", "(LSearchKeeper;IIC[J)I"⟩
abbrev cL_remove : ByteArray := method_7_code
def yL_remove : MethodName := ⟨RL, "remove", "(LSearchKeeper;I[J)I"⟩
abbrev cL_lock : ByteArray := method_8_code
def yL_lock : MethodName := ⟨RL, "lock", "(LSearchKeeper;IZ[J)I"⟩
abbrev cL_people : ByteArray := method_9_code
def yL_people : MethodName := ⟨RL, "people", "(LSearchKeeper;II[J)I"⟩
abbrev cL_mayRead : ByteArray := method_10_code
def yL_mayRead : MethodName := ⟨RL, "mayRead", "(LSearchKeeper;II[J)I"⟩
abbrev cL_watch : ByteArray := method_11_code
def yL_watch : MethodName := ⟨RL, "watch", "(LSearchKeeper;I[J)I"⟩
abbrev cL_notices : ByteArray := method_12_code
def yL_notices : MethodName := ⟨RL, "notices", "(LSearchKeeper;I[J)I"⟩
abbrev cL_twice : ByteArray := method_13_code
def yL_twice : MethodName := ⟨RL, "twice", "(LSearchKeeper;I[J)I"⟩
abbrev cL_lose : ByteArray := method_14_code
def yL_lose : MethodName := ⟨RL, "lose", "(LSearchKeeper;II[J)I"⟩
abbrev cL_pass : ByteArray := method_15_code
def yL_pass : MethodName := ⟨RL, "pass", "(LSearchKeeper;I[J)I"⟩
abbrev cL_limits : ByteArray := method_16_code
def yL_limits : MethodName := ⟨RL, "limits", "(LSearchKeeper;II[J)I"⟩
abbrev cL_work : ByteArray := method_17_code
def yL_work : MethodName := ⟨RL, "work", "(LSearchKeeper;I[J)I"⟩
abbrev cL_crawl : ByteArray := method_18_code
def yL_crawl : MethodName := ⟨RL, "crawl", "(LSearchKeeper;I[J)I"⟩
abbrev cL_edition : ByteArray := method_19_code
def yL_edition : MethodName := ⟨RL, "edition", "(LSearchKeeper;I[J)I"⟩
abbrev cL_answers : ByteArray := method_20_code
def yL_answers : MethodName := ⟨RL, "answers", "(LSearchKeeper;IIII[J)I"⟩
abbrev cL_answersAnew : ByteArray := method_21_code
def yL_answersAnew : MethodName := ⟨RL, "answersAnew", "(LSearchKeeper;IIII[J)I"⟩
abbrev cL_answer : ByteArray := method_22_code
def yL_answer : MethodName := ⟨RL, "answer", "(LSearchKeeper;IIII[J)I"⟩
abbrev cL_closest : ByteArray := method_23_code
def yL_closest : MethodName := ⟨RL, "closest", "(LSearchKeeper;IIII[J)I"⟩
abbrev cL_law : ByteArray := code
def yL_law : MethodName := ⟨RL, "law", "([I)Z"⟩
abbrev vwCl : List vw_C := [(RX0, TX0, 4), (RX1, TX1, 5), (RX2, TX2, 10), (RX3, TX3, 4), (RX4, TX4, 6), (RX5, TX5, 6), (RX6, TX6, 2), (RX7, TX7, 6), (RX8, TX8, 3), (RX9, TX9, 10), (RX10, TX10, 9), (RX11, TX11, 46)]
end
section
/-! ===== one list of words for every method: the tables' good words ===== -/
def gTbl : List Cond := lw_tbl.filter goodWord
theorem gTbl_good : GoodIn gTbl gTbl := fun _ hw => ⟨hw, good_of_word (List.mem_filter.mp hw).2⟩
theorem gTbl_in {w : Cond} (h : w ∈ gTbl) : w ∈ lw_tbl := (List.mem_filter.mp h).1
theorem gTbl_at {i : Nat} {w : Cond} (h : lw_tbl[i]? = some w) (hg : goodWord w = true) : w ∈ gTbl := List.mem_filter.mpr ⟨List.mem_of_getElem? h, hg⟩
/-! ===== a world laid out by numbers: a cell a number; what the cells hold is one function of number and place ===== -/
abbrev JX : Type := Nat → Nat → Int32
/-- how many cells; the kind of each: (0, n) ints, (1, n) booleans, (2, n) chars, (3, n) roots by their numbers, (10 + class, _) an object, (100 + b, n) a row of the rows b, b + 1 ..; an object's fields -/
abbrev Lay : Type := Nat × (Nat → Nat × Nat) × ((Nat → Nat) → (Nat → Int32) → Nat → Nat → List Value)
def cZ (L : Lay) (ad : Nat → Nat) (cA : Nat → ClassId) (f : Nat → Int32) (k : Nat) : va_E := match L.2.1 k with
  | (0, n) => .inl (cA 0, (n, .inl f))
  | (1, n) => .inl (cA 1, (n, .inl f))
  | (2, n) => .inl (cA 2, (n, .inl f))
  | (3, n) => .inl (cA 3, (n, .inr (.inr (.inr (.inr (fun j => some (ad (f j).toNatClampNeg)))))))
  | (c, n) => if c < 100 then .inr (c - 10, L.2.2 ad f k (c - 10)) else .inl (cA 4, (n, .inr (.inr (.inr (.inr (fun j => if j < n then some (ad (c - 100 + j)) else none))))))
def wZ (L : Lay) (ad : Nat → Nat) (cA : Nat → ClassId) (X : JX) : va_W := (List.range L.1).map fun k => (ad k, cZ L ad cA (X k) k)
def pX (X : JX) (k : Nat) (f : Nat → Int32) : JX := fun q => if q = k then f else X q
theorem pX_self (X : JX) (k : Nat) (f : Nat → Int32) : pX X k f k = f := if_pos rfl
theorem pX_ne (X : JX) {k q : Nat} (f : Nat → Int32) (h : q ≠ k) : pX X k f q = X q := if_neg h
theorem wZ_len (L : Lay) (ad : Nat → Nat) (cA : Nat → ClassId) (X : JX) : (wZ L ad cA X).length = L.1 := by simp [wZ]
theorem wZ_get {L : Lay} {ad : Nat → Nat} {cA : Nat → ClassId} {X : JX} {rs : va_W} {k : Nat} (h : k < L.1) : (wZ L ad cA X ++ rs)[k]? = some (ad k, cZ L ad cA (X k) k) := by
  rw [List.getElem?_append_left (by rw [wZ_len]; exact h), wZ, List.getElem?_map, List.getElem?_range h]
  rfl
theorem wZ_set {L : Lay} {ad : Nat → Nat} {cA : Nat → ClassId} {X X' : JX} {rs : va_W} {k : Nat} (h : k < L.1) (hX : ∀ j, j ≠ k → X' j = X j) : (wZ L ad cA X ++ rs).set k (ad k, cZ L ad cA (X' k) k) = wZ L ad cA X' ++ rs := by
  have hl : (wZ L ad cA X).length = L.1 := wZ_len L ad cA X
  rw [List.set_append_left _ _ (by rw [hl]; exact h)]
  congr 1
  apply List.ext_getElem?
  intro j
  by_cases hj : j = k
  · subst hj
    rw [List.getElem?_set_self (by rw [hl]; exact h), wZ, List.getElem?_map, List.getElem?_range h]
    rfl
  · rw [List.getElem?_set_ne (fun e => hj e.symm)]
    by_cases hlt : j < L.1
    · rw [wZ, wZ, List.getElem?_map, List.getElem?_map, List.getElem?_range hlt]
      simp only [Option.map_some]
      rw [hX j hj]
    · rw [List.getElem?_eq_none (by rw [wZ_len]; omega), List.getElem?_eq_none (by rw [wZ_len]; omega)]
/-- addresses do not move -/
theorem wZ_adr {L : Lay} {ad : Nat → Nat} {cA : Nat → ClassId} {X X' : JX} {rs : va_W} {k : Nat} {q : Nat × va_E} (h : (wZ L ad cA X' ++ rs)[k]? = some q) : ∃ q0, (wZ L ad cA X ++ rs)[k]? = some q0 ∧ q0.1 = q.1 := by
  by_cases hk : k < L.1
  · rw [wZ_get hk] at h
    cases h
    exact ⟨_, wZ_get hk, rfl⟩
  · rw [List.getElem?_append_right (by rw [wZ_len]; omega), wZ_len] at h
    exact ⟨q, by rw [List.getElem?_append_right (by rw [wZ_len]; omega), wZ_len]; exact h, rfl⟩
theorem wZ_D {L : Lay} {ad : Nat → Nat} {cA : Nat → ClassId} {X X' : JX} {rs : va_W} {A : Nat → Prop} (h : va_D A (wZ L ad cA X ++ rs)) : va_D A (wZ L ad cA X' ++ rs) := by
  refine ⟨fun i j x y hi hj hxy => ?_, fun k q hk => ?_⟩
  · obtain ⟨x0, h1, e1⟩ := wZ_adr (X := X) hi
    obtain ⟨y0, h2, e2⟩ := wZ_adr (X := X) hj
    exact h.1 i j x0 y0 h1 h2 (e1.trans (hxy.trans e2.symm))
  · obtain ⟨q0, h1, e1⟩ := wZ_adr (X := X) hk
    rw [← e1]
    exact h.2 k q0 h1
/-- the classes of arrays -/
def jTy (cA : Nat → ClassId) : List (ClassId × FieldType) := [(cA 0, .int), (cA 1, .boolean), (cA 2, .char), (cA 3, .object "SearchKeeper$Root"), (cA 4, .array .int), (cA 5, .long)]
def jRm (d kc ks : Nat) : Room := { frames := d, cells := kc, slots := ks, locals := 39 * d }
/-- what stays through a method's body -/
abbrev JK : Type := Program × Launch × Env × Room × State × MethodId × Array Value × List Frame × Method × Code × va_G × (Nat → Prop) × (Nat → Nat) × (Nat → ClassId) × va_W × (State → Prop)
def jad (κ : JK) : Nat → Nat := κ.2.2.2.2.2.2.2.2.2.2.2.2.1
def J (L : Lay) (n : Nat) (κ : JK) (X : JX) (pc : Nat) (lv : List (Nat × Value)) (st : List Value) : Prop := match κ with
  | (p, l, e, R, s, m, args, below, meth, c, D, A, ad, cA, rs, Q) => ∀ (H : Heap) (locs : List Loc) (ls : Array Slot), va_P D vwCl (wZ L ad cA X ++ rs) H → va_D A (wZ L ad cA X ++ rs) → va_S A s.heap H locs → lv_has ls n lv → W p l e R s m args below meth c H locs 0 0 Q (F0 m pc ls st)
def jOk (n : Nat) (cc : ByteArray) (own : String) (ret : Option FieldType) (d : Nat) (κ : JK) : Prop := match κ with
  | (p, l, e, R, s, m, args, below, meth, c, D, A, ad, cA, rs, Q) => p.tables.exec = Jvm.exec ∧ c.code = cc ∧ c.maxLocals = n ∧ s.vm.findClass own = some m.cls ∧ (∀ w ∈ gTbl, w.before args s = true) ∧ meth.sig.returnType = ret ∧ meth.locks = false ∧ va_K D vwCl (jTy cA) s ∧ (∀ q, s.heap.size ≤ q → A q) ∧ d ≤ R.frames ∧ 39 * d ≤ R.locals
/-- the classes that are thrown, by numbers -/
def excN (k : Nat) : String := if k = 1 then "java/lang/IndexOutOfBoundsException" else if k = 2 then "java/lang/IllegalArgumentException" else "java/lang/IllegalStateException"
/-- how a method ends: with the exception of that number, or with that answer; with that world -/
abbrev JE : Type := Option Nat × Option Value × JX
def jQc (L : Lay) (D : va_G) (ad : Nat → Nat) (cA : Nat → ClassId) (rs : va_W) (A : Nat → Prop) (x : JE) : Array Value → State → Outcome → State → Prop := fun _ st oc t => (x.1 = none ∧ oc = .returned x.2.1 ∧ va_P D vwCl (wZ L ad cA x.2.2 ++ rs) t.heap) ∧ va_F A st t
def jXc (L : Lay) (D : va_G) (ad : Nat → Nat) (cA : Nat → ClassId) (rs : va_W) (A : Nat → Prop) (x : JE) : String → State → State → Prop := fun E st t => (∃ k, x.1 = some k ∧ E = excN k) ∧ va_P D vwCl (wZ L ad cA x.2.2 ++ rs) t.heap ∧ va_F A st t
/-- what a method that throws needs of the heap -/
def jH (A : Nat → Prop) (U : State) : Prop := vx_Zq Bundle.tN "UNASSIGNED_STACK" Bundle.steD A U U.heap ∧ vx_Zq Bundle.tN "SUPPRESSED_SENTINEL" Bundle.listD A U U.heap
def jFin (L : Lay) (thr : Bool) (x : JE) (κ : JK) : Prop := match κ with
  | (_, l, _, R, s, _, args, below, _, _, D, A, ad, cA, rs, Q) => if thr = true then Q = vx_MQ below (jQc L D ad cA rs A x) (jXc L D ad cA rs A x) args s 1 6 A ∧ 1 ≤ R.cells ∧ 6 ≤ R.slots ∧ l.stackTraces = false ∧ jH A s else Q = MQ below (jQc L D ad cA rs A x) args s 0 0 A
/-! ===== rows ===== -/
def jst (i : Nat) (v : Value) (lv : List (Nat × Value)) : List (Nat × Value) := (i, v) :: lv.filter (fun q => !(q.1 == i) && !(q.1 + 1 == i && q.2.category == 2))
def okI (i : Int32) (n : Nat) : Bool := decide (¬ i < 0) && decide (i.toNatClampNeg < n)
theorem okI_in {i : Int32} {n : Nat} (h : okI i n = true) : vp_in i n := by
  simp only [okI, Bool.and_eq_true, decide_eq_true_eq] at h
  exact fun q => q.elim h.1 (fun z => absurd h.2 (Nat.not_lt.mpr z))
theorem okI_lt {i : Int32} {n : Nat} (h : okI i n = true) : i.toNatClampNeg < n := by
  simp only [okI, Bool.and_eq_true, decide_eq_true_eq] at h
  exact h.2
def okB (v : Int32) : Bool := decide (v = 0) || decide (v = 1)
theorem okB_or {v : Int32} (h : okB v = true) : v = 0 ∨ v = 1 := by
  simpa [okB] using h
theorem okB_n {v : Int32} (h : okB v = true) : narrow .boolean (.int v) = .int v := by
  rcases okB_or h with rfl | rfl <;> rfl
theorem okB_f {v : Int32} (h : okB v = true) : fits .boolean (.int v) = true := by
  rcases okB_or h with rfl | rfl <;> rfl
theorem g_if {α : Type} {c : Prop} [Decidable c] {a : Option α} {r : α} (hr : (if c then a else none) = some r) : c ∧ a = some r := by
  by_cases h : c
  · rw [if_pos h] at hr; exact ⟨h, hr⟩
  · rw [if_neg h] at hr; cases hr
theorem g_bd {α β : Type} {a : Option α} {g : α → Option β} {r : β} (hr : a.bind g = some r) : ∃ v, a = some v ∧ g v = some r := by
  cases a with
  | none => cases hr
  | some v => exact ⟨v, rfl, hr⟩
/-- a loop: what is left for the body, at most n times -/
def loopF {A B : Type} (f : (A → Option B) → A → Option B) : Nat → A → Option B
  | 0 => fun _ => none
  | n + 1 => f (loopF f n)
section JR
variable {L : Lay} {n : Nat} {cc : ByteArray} {own : String} {ret : Option FieldType} {d : Nat} {κ : JK} {X : JX} {pc : Nat} {lv : List (Nat × Value)} {st : List Value} {β : Type} {r : β}

theorem j_iconst (K : jOk n cc own ret d κ) {z : Int} {v : Int32} (dg : decode cc pc = .ok (.iconst z, 1)) (hv : Int32.ofInt z = v) (k : J L n κ X (pc + 1) lv (.int v :: st)) : J L n κ X pc lv st := by
  obtain ⟨p, l, e, R, s, m, args, below, meth, c, D, A, ad, cA, rs, Q⟩ := κ
  obtain ⟨hx, hb, hml, hown, hts, hr0, hlk, hK, hA, hfr, hlo⟩ := K
  intro H locs ls hP hD hS hl
  exact lv_iconst hx hb dg hv (k H locs ls hP hD hS hl)
theorem j_bipush (K : jOk n cc own ret d κ) {z : Int} {v : Int32} (dg : decode cc pc = .ok (.bipush z, 2)) (hv : (Int8.ofInt z).toInt32 = v) (k : J L n κ X (pc + 2) lv (.int v :: st)) : J L n κ X pc lv st := by
  obtain ⟨p, l, e, R, s, m, args, below, meth, c, D, A, ad, cA, rs, Q⟩ := κ
  obtain ⟨hx, hb, hml, hown, hts, hr0, hlk, hK, hA, hfr, hlo⟩ := K
  intro H locs ls hP hD hS hl
  exact lv_bipush hx hb dg hv (k H locs ls hP hD hS hl)
theorem j_sipush (K : jOk n cc own ret d κ) {z : Int} {v : Int32} (dg : decode cc pc = .ok (.sipush z, 3)) (hv : (Int16.ofInt z).toInt32 = v) (k : J L n κ X (pc + 3) lv (.int v :: st)) : J L n κ X pc lv st := by
  obtain ⟨p, l, e, R, s, m, args, below, meth, c, D, A, ad, cA, rs, Q⟩ := κ
  obtain ⟨hx, hb, hml, hown, hts, hr0, hlk, hK, hA, hfr, hlo⟩ := K
  intro H locs ls hP hD hS hl
  exact lv_sipush hx hb dg hv (k H locs ls hP hD hS hl)
theorem j_lconst (K : jOk n cc own ret d κ) {z : Fin 2} {v : Int64} (dg : decode cc pc = .ok (.lconst z, 1)) (hv : Int64.ofNat (z : Nat) = v) (k : J L n κ X (pc + 1) lv (.long v :: st)) : J L n κ X pc lv st := by
  obtain ⟨p, l, e, R, s, m, args, below, meth, c, D, A, ad, cA, rs, Q⟩ := κ
  obtain ⟨hx, hb, hml, hown, hts, hr0, hlk, hK, hA, hfr, hlo⟩ := K
  intro H locs ls hP hD hS hl
  exact lv_lconst hx hb dg hv (k H locs ls hP hD hS hl)
theorem j_null (K : jOk n cc own ret d κ) (dg : decode cc pc = .ok (.aconst_null, 1)) (k : J L n κ X (pc + 1) lv (.null :: st)) : J L n κ X pc lv st := by
  obtain ⟨p, l, e, R, s, m, args, below, meth, c, D, A, ad, cA, rs, Q⟩ := κ
  obtain ⟨hx, hb, hml, hown, hts, hr0, hlk, hK, hA, hfr, hlo⟩ := K
  intro H locs ls hP hD hS hl
  exact lv_null hx hb dg (k H locs ls hP hD hS hl)
theorem j_iload_n (K : jOk n cc own ret d κ) {i : Fin 4} {x : Int32} (dg : decode cc pc = .ok (.iload_n i, 1)) (q : Nat) (h : lv[q]? = some ((i : Nat), .int x)) (k : J L n κ X (pc + 1) lv (.int x :: st)) : J L n κ X pc lv st := by
  obtain ⟨p, l, e, R, s, m, args, below, meth, c, D, A, ad, cA, rs, Q⟩ := κ
  obtain ⟨hx, hb, hml, hown, hts, hr0, hlk, hK, hA, hfr, hlo⟩ := K
  intro H locs ls hP hD hS hl
  exact lv_iload_n hx hb dg rfl (lv_at hl q h) (k H locs ls hP hD hS hl)
theorem j_iload (K : jOk n cc own ret d κ) {i : Nat} {x : Int32} (dg : decode cc pc = .ok (.iload i, 2)) (q : Nat) (h : lv[q]? = some (i, .int x)) (k : J L n κ X (pc + 2) lv (.int x :: st)) : J L n κ X pc lv st := by
  obtain ⟨p, l, e, R, s, m, args, below, meth, c, D, A, ad, cA, rs, Q⟩ := κ
  obtain ⟨hx, hb, hml, hown, hts, hr0, hlk, hK, hA, hfr, hlo⟩ := K
  intro H locs ls hP hD hS hl
  exact lv_iload hx hb dg (lv_at hl q h) (k H locs ls hP hD hS hl)
theorem j_aload_n (K : jOk n cc own ret d κ) {i : Fin 4} {x : Nat} (dg : decode cc pc = .ok (.aload_n i, 1)) (q : Nat) (h : lv[q]? = some ((i : Nat), .ref x)) (k : J L n κ X (pc + 1) lv (.ref x :: st)) : J L n κ X pc lv st := by
  obtain ⟨p, l, e, R, s, m, args, below, meth, c, D, A, ad, cA, rs, Q⟩ := κ
  obtain ⟨hx, hb, hml, hown, hts, hr0, hlk, hK, hA, hfr, hlo⟩ := K
  intro H locs ls hP hD hS hl
  exact lv_aload_n hx hb dg rfl (lv_at hl q h) (k H locs ls hP hD hS hl)
theorem j_aload (K : jOk n cc own ret d κ) {i : Nat} {x : Nat} (dg : decode cc pc = .ok (.aload i, 2)) (q : Nat) (h : lv[q]? = some (i, .ref x)) (k : J L n κ X (pc + 2) lv (.ref x :: st)) : J L n κ X pc lv st := by
  obtain ⟨p, l, e, R, s, m, args, below, meth, c, D, A, ad, cA, rs, Q⟩ := κ
  obtain ⟨hx, hb, hml, hown, hts, hr0, hlk, hK, hA, hfr, hlo⟩ := K
  intro H locs ls hP hD hS hl
  exact lv_aload hx hb dg (lv_at hl q h) (k H locs ls hP hD hS hl)
theorem j_aload_nN (K : jOk n cc own ret d κ) {i : Fin 4} (dg : decode cc pc = .ok (.aload_n i, 1)) (q : Nat) (h : lv[q]? = some ((i : Nat), .null)) (k : J L n κ X (pc + 1) lv (.null :: st)) : J L n κ X pc lv st := by
  obtain ⟨p, l, e, R, s, m, args, below, meth, c, D, A, ad, cA, rs, Q⟩ := κ
  obtain ⟨hx, hb, hml, hown, hts, hr0, hlk, hK, hA, hfr, hlo⟩ := K
  intro H locs ls hP hD hS hl
  exact lv_aload_nN hx hb dg rfl (lv_at hl q h) (k H locs ls hP hD hS hl)
theorem j_aloadN (K : jOk n cc own ret d κ) {i : Nat} (dg : decode cc pc = .ok (.aload i, 2)) (q : Nat) (h : lv[q]? = some (i, .null)) (k : J L n κ X (pc + 2) lv (.null :: st)) : J L n κ X pc lv st := by
  obtain ⟨p, l, e, R, s, m, args, below, meth, c, D, A, ad, cA, rs, Q⟩ := κ
  obtain ⟨hx, hb, hml, hown, hts, hr0, hlk, hK, hA, hfr, hlo⟩ := K
  intro H locs ls hP hD hS hl
  exact lv_aloadN hx hb dg (lv_at hl q h) (k H locs ls hP hD hS hl)
theorem j_istore_n (K : jOk n cc own ret d κ) {i : Fin 4} {x : Int32} (dg : decode cc pc = .ok (.istore_n i, 1)) (hn : (i : Nat) < n) (k : J L n κ X (pc + 1) (jst (i : Nat) (.int x) lv) st) : J L n κ X pc lv (.int x :: st) := by
  obtain ⟨p, l, e, R, s, m, args, below, meth, c, D, A, ad, cA, rs, Q⟩ := κ
  obtain ⟨hx, hb, hml, hown, hts, hr0, hlk, hK, hA, hfr, hlo⟩ := K
  intro H locs ls hP hD hS hl
  exact lv_istore_n hx hb dg rfl hl hn rfl (fun ls hl => k H locs ls hP hD hS hl)
theorem j_istore (K : jOk n cc own ret d κ) {i : Nat} {x : Int32} (dg : decode cc pc = .ok (.istore i, 2)) (hn : i < n) (k : J L n κ X (pc + 2) (jst i (.int x) lv) st) : J L n κ X pc lv (.int x :: st) := by
  obtain ⟨p, l, e, R, s, m, args, below, meth, c, D, A, ad, cA, rs, Q⟩ := κ
  obtain ⟨hx, hb, hml, hown, hts, hr0, hlk, hK, hA, hfr, hlo⟩ := K
  intro H locs ls hP hD hS hl
  exact lv_istore hx hb dg hl hn rfl (fun ls hl => k H locs ls hP hD hS hl)
theorem j_astore_n (K : jOk n cc own ret d κ) {i : Fin 4} {x : Nat} (dg : decode cc pc = .ok (.astore_n i, 1)) (hn : (i : Nat) < n) (k : J L n κ X (pc + 1) (jst (i : Nat) (.ref x) lv) st) : J L n κ X pc lv (.ref x :: st) := by
  obtain ⟨p, l, e, R, s, m, args, below, meth, c, D, A, ad, cA, rs, Q⟩ := κ
  obtain ⟨hx, hb, hml, hown, hts, hr0, hlk, hK, hA, hfr, hlo⟩ := K
  intro H locs ls hP hD hS hl
  exact lv_astore_n hx hb dg rfl hl hn rfl (fun ls hl => k H locs ls hP hD hS hl)
theorem j_astore (K : jOk n cc own ret d κ) {i : Nat} {x : Nat} (dg : decode cc pc = .ok (.astore i, 2)) (hn : i < n) (k : J L n κ X (pc + 2) (jst i (.ref x) lv) st) : J L n κ X pc lv (.ref x :: st) := by
  obtain ⟨p, l, e, R, s, m, args, below, meth, c, D, A, ad, cA, rs, Q⟩ := κ
  obtain ⟨hx, hb, hml, hown, hts, hr0, hlk, hK, hA, hfr, hlo⟩ := K
  intro H locs ls hP hD hS hl
  exact lv_astore hx hb dg hl hn rfl (fun ls hl => k H locs ls hP hD hS hl)
theorem j_astore_nN (K : jOk n cc own ret d κ) {i : Fin 4} (dg : decode cc pc = .ok (.astore_n i, 1)) (hn : (i : Nat) < n) (k : J L n κ X (pc + 1) (jst (i : Nat) .null lv) st) : J L n κ X pc lv (.null :: st) := by
  obtain ⟨p, l, e, R, s, m, args, below, meth, c, D, A, ad, cA, rs, Q⟩ := κ
  obtain ⟨hx, hb, hml, hown, hts, hr0, hlk, hK, hA, hfr, hlo⟩ := K
  intro H locs ls hP hD hS hl
  exact lv_astore_nN hx hb dg rfl hl hn rfl (fun ls hl => k H locs ls hP hD hS hl)
theorem j_astoreN (K : jOk n cc own ret d κ) {i : Nat} (dg : decode cc pc = .ok (.astore i, 2)) (hn : i < n) (k : J L n κ X (pc + 2) (jst i .null lv) st) : J L n κ X pc lv (.null :: st) := by
  obtain ⟨p, l, e, R, s, m, args, below, meth, c, D, A, ad, cA, rs, Q⟩ := κ
  obtain ⟨hx, hb, hml, hown, hts, hr0, hlk, hK, hA, hfr, hlo⟩ := K
  intro H locs ls hP hD hS hl
  exact lv_astoreN hx hb dg hl hn rfl (fun ls hl => k H locs ls hP hD hS hl)
theorem j_iinc (K : jOk n cc own ret d κ) {i : Nat} {z : Int} {x v : Int32} (dg : decode cc pc = .ok (.iinc i z, 3)) (q : Nat) (h : lv[q]? = some (i, .int x)) (hz : Int32.ofInt z = v) (hn : i < n) (k : J L n κ X (pc + 3) (jst i (.int (x + v)) lv) st) : J L n κ X pc lv st := by
  obtain ⟨p, l, e, R, s, m, args, below, meth, c, D, A, ad, cA, rs, Q⟩ := κ
  obtain ⟨hx, hb, hml, hown, hts, hr0, hlk, hK, hA, hfr, hlo⟩ := K
  intro H locs ls hP hD hS hl
  subst hz; exact lv_iinc hx hb dg hl h rfl hn rfl (fun ls hl => k H locs ls hP hD hS hl)
theorem j_iadd (K : jOk n cc own ret d κ) {x y : Int32} (dg : decode cc pc = .ok (.iadd, 1)) (k : J L n κ X (pc + 1) lv (.int (x + y) :: st)) : J L n κ X pc lv (.int y :: .int x :: st) := by
  obtain ⟨p, l, e, R, s, m, args, below, meth, c, D, A, ad, cA, rs, Q⟩ := κ
  obtain ⟨hx, hb, hml, hown, hts, hr0, hlk, hK, hA, hfr, hlo⟩ := K
  intro H locs ls hP hD hS hl
  exact lv_iadd hx hb dg (k H locs ls hP hD hS hl)
theorem j_isub (K : jOk n cc own ret d κ) {x y : Int32} (dg : decode cc pc = .ok (.isub, 1)) (k : J L n κ X (pc + 1) lv (.int (x - y) :: st)) : J L n κ X pc lv (.int y :: .int x :: st) := by
  obtain ⟨p, l, e, R, s, m, args, below, meth, c, D, A, ad, cA, rs, Q⟩ := κ
  obtain ⟨hx, hb, hml, hown, hts, hr0, hlk, hK, hA, hfr, hlo⟩ := K
  intro H locs ls hP hD hS hl
  exact lv_isub hx hb dg (k H locs ls hP hD hS hl)
theorem j_imul (K : jOk n cc own ret d κ) {x y : Int32} (dg : decode cc pc = .ok (.imul, 1)) (k : J L n κ X (pc + 1) lv (.int (x * y) :: st)) : J L n κ X pc lv (.int y :: .int x :: st) := by
  obtain ⟨p, l, e, R, s, m, args, below, meth, c, D, A, ad, cA, rs, Q⟩ := κ
  obtain ⟨hx, hb, hml, hown, hts, hr0, hlk, hK, hA, hfr, hlo⟩ := K
  intro H locs ls hP hD hS hl
  exact lv_imul hx hb dg (k H locs ls hP hD hS hl)
theorem j_iand (K : jOk n cc own ret d κ) {x y : Int32} (dg : decode cc pc = .ok (.iand, 1)) (k : J L n κ X (pc + 1) lv (.int (x &&& y) :: st)) : J L n κ X pc lv (.int y :: .int x :: st) := by
  obtain ⟨p, l, e, R, s, m, args, below, meth, c, D, A, ad, cA, rs, Q⟩ := κ
  obtain ⟨hx, hb, hml, hown, hts, hr0, hlk, hK, hA, hfr, hlo⟩ := K
  intro H locs ls hP hD hS hl
  exact lv_iand hx hb dg (k H locs ls hP hD hS hl)
theorem j_ishr (K : jOk n cc own ret d κ) {x y : Int32} (dg : decode cc pc = .ok (.ishr, 1)) (k : J L n κ X (pc + 1) lv (.int (x >>> (y &&& 31)) :: st)) : J L n κ X pc lv (.int y :: .int x :: st) := by
  obtain ⟨p, l, e, R, s, m, args, below, meth, c, D, A, ad, cA, rs, Q⟩ := κ
  obtain ⟨hx, hb, hml, hown, hts, hr0, hlk, hK, hA, hfr, hlo⟩ := K
  intro H locs ls hP hD hS hl
  exact lv_ishr hx hb dg (k H locs ls hP hD hS hl)
theorem j_idiv (K : jOk n cc own ret d κ) {x y : Int32} (dg : decode cc pc = .ok (.idiv, 1)) (hy : ¬ y = 0) (k : J L n κ X (pc + 1) lv (.int (x / y) :: st)) : J L n κ X pc lv (.int y :: .int x :: st) := by
  obtain ⟨p, l, e, R, s, m, args, below, meth, c, D, A, ad, cA, rs, Q⟩ := κ
  obtain ⟨hx, hb, hml, hown, hts, hr0, hlk, hK, hA, hfr, hlo⟩ := K
  intro H locs ls hP hD hS hl
  exact lv_idiv hx hb dg hy (k H locs ls hP hD hS hl)
theorem j_irem (K : jOk n cc own ret d κ) {x y : Int32} (dg : decode cc pc = .ok (.irem, 1)) (hy : ¬ y = 0) (k : J L n κ X (pc + 1) lv (.int (x - x / y * y) :: st)) : J L n κ X pc lv (.int y :: .int x :: st) := by
  obtain ⟨p, l, e, R, s, m, args, below, meth, c, D, A, ad, cA, rs, Q⟩ := κ
  obtain ⟨hx, hb, hml, hown, hts, hr0, hlk, hK, hA, hfr, hlo⟩ := K
  intro H locs ls hP hD hS hl
  exact lv_irem hx hb dg hy (k H locs ls hP hD hS hl)
theorem j_dup (K : jOk n cc own ret d κ) {v : Value} (dg : decode cc pc = .ok (.dup, 1)) (hv : v.category = 1) (k : J L n κ X (pc + 1) lv (v :: v :: st)) : J L n κ X pc lv (v :: st) := by
  obtain ⟨p, l, e, R, s, m, args, below, meth, c, D, A, ad, cA, rs, Q⟩ := κ
  obtain ⟨hx, hb, hml, hown, hts, hr0, hlk, hK, hA, hfr, hlo⟩ := K
  intro H locs ls hP hD hS hl
  exact lv_dup hx hb dg hv (k H locs ls hP hD hS hl)
theorem j_pop (K : jOk n cc own ret d κ) {v : Value} (dg : decode cc pc = .ok (.pop, 1)) (hv : v.category = 1) (k : J L n κ X (pc + 1) lv st) : J L n κ X pc lv (v :: st) := by
  obtain ⟨p, l, e, R, s, m, args, below, meth, c, D, A, ad, cA, rs, Q⟩ := κ
  obtain ⟨hx, hb, hml, hown, hts, hr0, hlk, hK, hA, hfr, hlo⟩ := K
  intro H locs ls hP hD hS hl
  exact lv_pop hx hb dg hv (k H locs ls hP hD hS hl)
theorem j_dup2 (K : jOk n cc own ret d κ) {v u : Value} (dg : decode cc pc = .ok (.dup2, 1)) (hv : v.category = 1) (hu : u.category = 1) (k : J L n κ X (pc + 1) lv (v :: u :: v :: u :: st)) : J L n κ X pc lv (v :: u :: st) := by
  obtain ⟨p, l, e, R, s, m, args, below, meth, c, D, A, ad, cA, rs, Q⟩ := κ
  obtain ⟨hx, hb, hml, hown, hts, hr0, hlk, hK, hA, hfr, hlo⟩ := K
  intro H locs ls hP hD hS hl
  exact lv_dup2_11 hx hb dg hv hu (k H locs ls hP hD hS hl)
theorem j_dup_x1 (K : jOk n cc own ret d κ) {v u : Value} (dg : decode cc pc = .ok (.dup_x1, 1)) (hv : v.category = 1) (hu : u.category = 1) (k : J L n κ X (pc + 1) lv (v :: u :: v :: st)) : J L n κ X pc lv (v :: u :: st) := by
  obtain ⟨p, l, e, R, s, m, args, below, meth, c, D, A, ad, cA, rs, Q⟩ := κ
  obtain ⟨hx, hb, hml, hown, hts, hr0, hlk, hK, hA, hfr, hlo⟩ := K
  intro H locs ls hP hD hS hl
  exact lv_dup_x1 hx hb dg hv hu (k H locs ls hP hD hS hl)
theorem j_if_eq (K : jOk n cc own ret d κ) {x : Int32} {off : Int} {tgt : Nat} {a b : Option β} (dg : decode cc pc = .ok (.ifCond .eq off, 3)) (ht : (pc : Int) + off = (tgt : Int)) (hr : (if x = 0 then a else b) = some r) (kt : a = some r → J L n κ X tgt lv st) (kf : b = some r → J L n κ X (pc + 3) lv st) : J L n κ X pc lv (.int x :: st) := by
  obtain ⟨p, l, e, R, s, m, args, below, meth, c, D, A, ad, cA, rs, Q⟩ := κ
  obtain ⟨hx, hb, hml, hown, hts, hr0, hlk, hK, hA, hfr, hlo⟩ := K
  intro H locs ls hP hD hS hl
  exact lv_if_eq hx hb dg ht (fun h => kt (by rw [if_pos h] at hr; exact hr) H locs ls hP hD hS hl) (fun h => kf (by rw [if_neg h] at hr; exact hr) H locs ls hP hD hS hl)
theorem j_icmp_eq (K : jOk n cc own ret d κ) {x y : Int32} {off : Int} {tgt : Nat} {a b : Option β} (dg : decode cc pc = .ok (.if_icmp .eq off, 3)) (ht : (pc : Int) + off = (tgt : Int)) (hr : (if x = y then a else b) = some r) (kt : a = some r → J L n κ X tgt lv st) (kf : b = some r → J L n κ X (pc + 3) lv st) : J L n κ X pc lv (.int y :: .int x :: st) := by
  obtain ⟨p, l, e, R, s, m, args, below, meth, c, D, A, ad, cA, rs, Q⟩ := κ
  obtain ⟨hx, hb, hml, hown, hts, hr0, hlk, hK, hA, hfr, hlo⟩ := K
  intro H locs ls hP hD hS hl
  exact lv_icmp_eq hx hb dg ht (fun h => kt (by rw [if_pos h] at hr; exact hr) H locs ls hP hD hS hl) (fun h => kf (by rw [if_neg h] at hr; exact hr) H locs ls hP hD hS hl)
theorem j_if_ne (K : jOk n cc own ret d κ) {x : Int32} {off : Int} {tgt : Nat} {a b : Option β} (dg : decode cc pc = .ok (.ifCond .ne off, 3)) (ht : (pc : Int) + off = (tgt : Int)) (hr : (if ¬ x = 0 then a else b) = some r) (kt : a = some r → J L n κ X tgt lv st) (kf : b = some r → J L n κ X (pc + 3) lv st) : J L n κ X pc lv (.int x :: st) := by
  obtain ⟨p, l, e, R, s, m, args, below, meth, c, D, A, ad, cA, rs, Q⟩ := κ
  obtain ⟨hx, hb, hml, hown, hts, hr0, hlk, hK, hA, hfr, hlo⟩ := K
  intro H locs ls hP hD hS hl
  exact lv_if_ne hx hb dg ht (fun h => kt (by rw [if_pos h] at hr; exact hr) H locs ls hP hD hS hl) (fun h => kf (by rw [if_neg (fun q => q h)] at hr; exact hr) H locs ls hP hD hS hl)
theorem j_icmp_ne (K : jOk n cc own ret d κ) {x y : Int32} {off : Int} {tgt : Nat} {a b : Option β} (dg : decode cc pc = .ok (.if_icmp .ne off, 3)) (ht : (pc : Int) + off = (tgt : Int)) (hr : (if ¬ x = y then a else b) = some r) (kt : a = some r → J L n κ X tgt lv st) (kf : b = some r → J L n κ X (pc + 3) lv st) : J L n κ X pc lv (.int y :: .int x :: st) := by
  obtain ⟨p, l, e, R, s, m, args, below, meth, c, D, A, ad, cA, rs, Q⟩ := κ
  obtain ⟨hx, hb, hml, hown, hts, hr0, hlk, hK, hA, hfr, hlo⟩ := K
  intro H locs ls hP hD hS hl
  exact lv_icmp_ne hx hb dg ht (fun h => kt (by rw [if_pos h] at hr; exact hr) H locs ls hP hD hS hl) (fun h => kf (by rw [if_neg (fun q => q h)] at hr; exact hr) H locs ls hP hD hS hl)
theorem j_if_lt (K : jOk n cc own ret d κ) {x : Int32} {off : Int} {tgt : Nat} {a b : Option β} (dg : decode cc pc = .ok (.ifCond .lt off, 3)) (ht : (pc : Int) + off = (tgt : Int)) (hr : (if x < 0 then a else b) = some r) (kt : a = some r → J L n κ X tgt lv st) (kf : b = some r → J L n κ X (pc + 3) lv st) : J L n κ X pc lv (.int x :: st) := by
  obtain ⟨p, l, e, R, s, m, args, below, meth, c, D, A, ad, cA, rs, Q⟩ := κ
  obtain ⟨hx, hb, hml, hown, hts, hr0, hlk, hK, hA, hfr, hlo⟩ := K
  intro H locs ls hP hD hS hl
  exact lv_if_lt hx hb dg ht (fun h => kt (by rw [if_pos h] at hr; exact hr) H locs ls hP hD hS hl) (fun h => kf (by rw [if_neg h] at hr; exact hr) H locs ls hP hD hS hl)
theorem j_icmp_lt (K : jOk n cc own ret d κ) {x y : Int32} {off : Int} {tgt : Nat} {a b : Option β} (dg : decode cc pc = .ok (.if_icmp .lt off, 3)) (ht : (pc : Int) + off = (tgt : Int)) (hr : (if x < y then a else b) = some r) (kt : a = some r → J L n κ X tgt lv st) (kf : b = some r → J L n κ X (pc + 3) lv st) : J L n κ X pc lv (.int y :: .int x :: st) := by
  obtain ⟨p, l, e, R, s, m, args, below, meth, c, D, A, ad, cA, rs, Q⟩ := κ
  obtain ⟨hx, hb, hml, hown, hts, hr0, hlk, hK, hA, hfr, hlo⟩ := K
  intro H locs ls hP hD hS hl
  exact lv_icmp_lt hx hb dg ht (fun h => kt (by rw [if_pos h] at hr; exact hr) H locs ls hP hD hS hl) (fun h => kf (by rw [if_neg h] at hr; exact hr) H locs ls hP hD hS hl)
theorem j_if_ge (K : jOk n cc own ret d κ) {x : Int32} {off : Int} {tgt : Nat} {a b : Option β} (dg : decode cc pc = .ok (.ifCond .ge off, 3)) (ht : (pc : Int) + off = (tgt : Int)) (hr : (if 0 ≤ x then a else b) = some r) (kt : a = some r → J L n κ X tgt lv st) (kf : b = some r → J L n κ X (pc + 3) lv st) : J L n κ X pc lv (.int x :: st) := by
  obtain ⟨p, l, e, R, s, m, args, below, meth, c, D, A, ad, cA, rs, Q⟩ := κ
  obtain ⟨hx, hb, hml, hown, hts, hr0, hlk, hK, hA, hfr, hlo⟩ := K
  intro H locs ls hP hD hS hl
  exact lv_if_ge hx hb dg ht (fun h => kt (by rw [if_pos h] at hr; exact hr) H locs ls hP hD hS hl) (fun h => kf (by rw [if_neg h] at hr; exact hr) H locs ls hP hD hS hl)
theorem j_icmp_ge (K : jOk n cc own ret d κ) {x y : Int32} {off : Int} {tgt : Nat} {a b : Option β} (dg : decode cc pc = .ok (.if_icmp .ge off, 3)) (ht : (pc : Int) + off = (tgt : Int)) (hr : (if y ≤ x then a else b) = some r) (kt : a = some r → J L n κ X tgt lv st) (kf : b = some r → J L n κ X (pc + 3) lv st) : J L n κ X pc lv (.int y :: .int x :: st) := by
  obtain ⟨p, l, e, R, s, m, args, below, meth, c, D, A, ad, cA, rs, Q⟩ := κ
  obtain ⟨hx, hb, hml, hown, hts, hr0, hlk, hK, hA, hfr, hlo⟩ := K
  intro H locs ls hP hD hS hl
  exact lv_icmp_ge hx hb dg ht (fun h => kt (by rw [if_pos h] at hr; exact hr) H locs ls hP hD hS hl) (fun h => kf (by rw [if_neg h] at hr; exact hr) H locs ls hP hD hS hl)
theorem j_if_gt (K : jOk n cc own ret d κ) {x : Int32} {off : Int} {tgt : Nat} {a b : Option β} (dg : decode cc pc = .ok (.ifCond .gt off, 3)) (ht : (pc : Int) + off = (tgt : Int)) (hr : (if 0 < x then a else b) = some r) (kt : a = some r → J L n κ X tgt lv st) (kf : b = some r → J L n κ X (pc + 3) lv st) : J L n κ X pc lv (.int x :: st) := by
  obtain ⟨p, l, e, R, s, m, args, below, meth, c, D, A, ad, cA, rs, Q⟩ := κ
  obtain ⟨hx, hb, hml, hown, hts, hr0, hlk, hK, hA, hfr, hlo⟩ := K
  intro H locs ls hP hD hS hl
  exact lv_if_gt hx hb dg ht (fun h => kt (by rw [if_pos h] at hr; exact hr) H locs ls hP hD hS hl) (fun h => kf (by rw [if_neg h] at hr; exact hr) H locs ls hP hD hS hl)
theorem j_icmp_gt (K : jOk n cc own ret d κ) {x y : Int32} {off : Int} {tgt : Nat} {a b : Option β} (dg : decode cc pc = .ok (.if_icmp .gt off, 3)) (ht : (pc : Int) + off = (tgt : Int)) (hr : (if y < x then a else b) = some r) (kt : a = some r → J L n κ X tgt lv st) (kf : b = some r → J L n κ X (pc + 3) lv st) : J L n κ X pc lv (.int y :: .int x :: st) := by
  obtain ⟨p, l, e, R, s, m, args, below, meth, c, D, A, ad, cA, rs, Q⟩ := κ
  obtain ⟨hx, hb, hml, hown, hts, hr0, hlk, hK, hA, hfr, hlo⟩ := K
  intro H locs ls hP hD hS hl
  exact lv_icmp_gt hx hb dg ht (fun h => kt (by rw [if_pos h] at hr; exact hr) H locs ls hP hD hS hl) (fun h => kf (by rw [if_neg h] at hr; exact hr) H locs ls hP hD hS hl)
theorem j_if_le (K : jOk n cc own ret d κ) {x : Int32} {off : Int} {tgt : Nat} {a b : Option β} (dg : decode cc pc = .ok (.ifCond .le off, 3)) (ht : (pc : Int) + off = (tgt : Int)) (hr : (if x ≤ 0 then a else b) = some r) (kt : a = some r → J L n κ X tgt lv st) (kf : b = some r → J L n κ X (pc + 3) lv st) : J L n κ X pc lv (.int x :: st) := by
  obtain ⟨p, l, e, R, s, m, args, below, meth, c, D, A, ad, cA, rs, Q⟩ := κ
  obtain ⟨hx, hb, hml, hown, hts, hr0, hlk, hK, hA, hfr, hlo⟩ := K
  intro H locs ls hP hD hS hl
  exact lv_if_le hx hb dg ht (fun h => kt (by rw [if_pos h] at hr; exact hr) H locs ls hP hD hS hl) (fun h => kf (by rw [if_neg h] at hr; exact hr) H locs ls hP hD hS hl)
theorem j_icmp_le (K : jOk n cc own ret d κ) {x y : Int32} {off : Int} {tgt : Nat} {a b : Option β} (dg : decode cc pc = .ok (.if_icmp .le off, 3)) (ht : (pc : Int) + off = (tgt : Int)) (hr : (if x ≤ y then a else b) = some r) (kt : a = some r → J L n κ X tgt lv st) (kf : b = some r → J L n κ X (pc + 3) lv st) : J L n κ X pc lv (.int y :: .int x :: st) := by
  obtain ⟨p, l, e, R, s, m, args, below, meth, c, D, A, ad, cA, rs, Q⟩ := κ
  obtain ⟨hx, hb, hml, hown, hts, hr0, hlk, hK, hA, hfr, hlo⟩ := K
  intro H locs ls hP hD hS hl
  exact lv_icmp_le hx hb dg ht (fun h => kt (by rw [if_pos h] at hr; exact hr) H locs ls hP hD hS hl) (fun h => kf (by rw [if_neg h] at hr; exact hr) H locs ls hP hD hS hl)
theorem j_goto (K : jOk n cc own ret d κ) {off : Int} {tgt : Nat} (dg : decode cc pc = .ok (.goto off, 3)) (ht : (pc : Int) + off = (tgt : Int)) (k : J L n κ X tgt lv st) : J L n κ X pc lv st := by
  obtain ⟨p, l, e, R, s, m, args, below, meth, c, D, A, ad, cA, rs, Q⟩ := κ
  obtain ⟨hx, hb, hml, hown, hts, hr0, hlk, hK, hA, hfr, hlo⟩ := K
  intro H locs ls hP hD hS hl
  exact lv_goto hx hb dg ht (k H locs ls hP hD hS hl)
theorem j_ifnull (K : jOk n cc own ret d κ) {a : Nat} {off : Int} (dg : decode cc pc = .ok (.ifnull off, 3)) (k : J L n κ X (pc + 3) lv st) : J L n κ X pc lv (.ref a :: st) := by
  obtain ⟨p, l, e, R, s, m, args, below, meth, c, D, A, ad, cA, rs, Q⟩ := κ
  obtain ⟨hx, hb, hml, hown, hts, hr0, hlk, hK, hA, hfr, hlo⟩ := K
  intro H locs ls hP hD hS hl
  exact lv_ifnull hx hb dg (k H locs ls hP hD hS hl)
theorem j_ifnullN (K : jOk n cc own ret d κ) {off : Int} {tgt : Nat} (dg : decode cc pc = .ok (.ifnull off, 3)) (ht : (pc : Int) + off = (tgt : Int)) (k : J L n κ X tgt lv st) : J L n κ X pc lv (.null :: st) := by
  obtain ⟨p, l, e, R, s, m, args, below, meth, c, D, A, ad, cA, rs, Q⟩ := κ
  obtain ⟨hx, hb, hml, hown, hts, hr0, hlk, hK, hA, hfr, hlo⟩ := K
  intro H locs ls hP hD hS hl
  exact lv_ifnullN hx hb dg ht (k H locs ls hP hD hS hl)
theorem j_ifnonnull (K : jOk n cc own ret d κ) {a : Nat} {off : Int} {tgt : Nat} (dg : decode cc pc = .ok (.ifnonnull off, 3)) (ht : (pc : Int) + off = (tgt : Int)) (k : J L n κ X tgt lv st) : J L n κ X pc lv (.ref a :: st) := by
  obtain ⟨p, l, e, R, s, m, args, below, meth, c, D, A, ad, cA, rs, Q⟩ := κ
  obtain ⟨hx, hb, hml, hown, hts, hr0, hlk, hK, hA, hfr, hlo⟩ := K
  intro H locs ls hP hD hS hl
  exact lv_ifnonnull hx hb dg ht (k H locs ls hP hD hS hl)
theorem j_ifnonnullN (K : jOk n cc own ret d κ) {off : Int} (dg : decode cc pc = .ok (.ifnonnull off, 3)) (k : J L n κ X (pc + 3) lv st) : J L n κ X pc lv (.null :: st) := by
  obtain ⟨p, l, e, R, s, m, args, below, meth, c, D, A, ad, cA, rs, Q⟩ := κ
  obtain ⟨hx, hb, hml, hown, hts, hr0, hlk, hK, hA, hfr, hlo⟩ := K
  intro H locs ls hP hD hS hl
  exact lv_ifnonnullN hx hb dg (k H locs ls hP hD hS hl)
theorem wZ_inj {L : Lay} {ad : Nat → Nat} {cA : Nat → ClassId} {X : JX} {rs : va_W} {A : Nat → Prop} (h : va_D A (wZ L ad cA X ++ rs)) {i j : Nat} (hi : i < L.1) (hj : j < L.1) (e : ad i = ad j) : i = j := h.1 i j _ _ (wZ_get hi) (wZ_get hj) e
theorem j_acmp_eq (K : jOk n cc own ret d κ) {x y : Nat} {off : Int} {tgt : Nat} {a b : Option β} (dg : decode cc pc = .ok (.if_acmp .eq off, 3)) (ht : (pc : Int) + off = (tgt : Int)) (h1 : x < L.1) (h2 : y < L.1) (hr : (if x = y then a else b) = some r) (kt : a = some r → J L n κ X tgt lv st) (kf : b = some r → J L n κ X (pc + 3) lv st) : J L n κ X pc lv (.ref (jad κ y) :: .ref (jad κ x) :: st) := by
  obtain ⟨p, l, e, R, s, m, args, below, meth, c, D, A, ad, cA, rs, Q⟩ := κ
  obtain ⟨hx, hb, hml, hown, hts, hr0, hlk, hK, hA, hfr, hlo⟩ := K
  intro H locs ls hP hD hS hl
  exact lv_acmp_eq (rx := some (ad x)) (ry := some (ad y)) hx hb dg ht (fun h => kt (by rw [if_pos (wZ_inj hD h1 h2 (Option.some.inj h))] at hr; exact hr) H locs ls hP hD hS hl) (fun h => kf (by rw [if_neg (fun q => h (by rw [q]))] at hr; exact hr) H locs ls hP hD hS hl)
theorem j_guard {c : Prop} [Decidable c] {a : Option β} (hr : (if c then a else none) = some r) (k : c → a = some r → J L n κ X pc lv st) : J L n κ X pc lv st := k (g_if hr).1 (g_if hr).2
theorem j_sub {lv' : List (Nat × Value)} (ks : List Nat) (h : lv_pick lv ks = lv') (k : J L n κ X pc lv' st) : J L n κ X pc lv st := by
  obtain ⟨p, l, e, R, s, m, args, below, meth, c, D, A, ad, cA, rs, Q⟩ := κ
  intro H locs ls hP hD hS hl
  exact k H locs ls hP hD hS (lv_sub hl ks h)
theorem j_loop {T : Type} {f : (T → Option β) → T → Option β} {P : T → Prop} (h : ∀ rec : T → Option β, (∀ s, rec s = some r → P s) → ∀ s, f rec s = some r → P s) : ∀ (n : Nat) (s : T), loopF f n s = some r → P s
  | 0, _, hr => nomatch hr
  | n + 1, s, hr => h (loopF f n) (j_loop h n) s hr
/-- a field's link: class ci, place j -/
def FLk (own : String) (idx ci j : Nat) : Prop := ∃ q : vw_C, vwCl[ci]? = some q ∧ j < q.2.2 ∧ Cond.fieldLink own idx q.1 (q.2.1 j).2.1 (q.2.1 j).2.2.1 ∈ gTbl ∧ (∀ w ∈ u_ws q.1 q.2.1 q.2.2, w ∈ gTbl) ∧ (q.2.1 j).1 = q.1
def FPk (own : String) (idx ci j : Nat) (ty : FieldType) : Prop := ∃ (q : vw_C) (ty0 : Nat → FieldType), vwCl[ci]? = some q ∧ j < q.2.2 ∧ Cond.fieldLink own idx q.1 (q.2.1 j).2.1 (q.2.1 j).2.2.1 ∈ gTbl ∧ (∀ w ∈ u_ws q.1 q.2.1 q.2.2, w ∈ gTbl) ∧ (q.2.1 j).1 = q.1 ∧ (∀ k, k < q.2.2 → parseFieldDescriptor (q.2.1 k).2.2.1 = some (ty0 k)) ∧ (∀ a, a < q.2.2 → ∀ b, b < q.2.2 → a ≠ b → (q.2.1 a).2.1 ≠ (q.2.1 b).2.1) ∧ (q.2.1 j).2.2.2 = false ∧ parseFieldDescriptor (q.2.1 j).2.2.1 = some ty
theorem cZ_ob {L : Lay} {ad : Nat → Nat} {cA : Nat → ClassId} {f : Nat → Int32} {k ci z : Nat} (h : L.2.1 k = (10 + ci, z)) (hc : ci < 90) : cZ L ad cA f k = .inr (ci, L.2.2 ad f k ci) := by
  unfold cZ
  rw [h]
  obtain ⟨c, hc2⟩ : ∃ c, c = 10 + ci := ⟨_, rfl⟩
  rw [← hc2]
  match c, hc2 with
  | 0, e => omega
  | 1, e => omega
  | 2, e => omega
  | 3, e => omega
  | c + 4, e =>
    show (if c + 4 < 100 then _ else _) = _
    rw [if_pos (by omega), e, Nat.add_sub_cancel_left]
theorem cZ_ou {L : Lay} {ad : Nat → Nat} {cA : Nat → ClassId} {f : Nat → Int32} {k b n : Nat} (h : L.2.1 k = (100 + b, n)) : cZ L ad cA f k = .inl (cA 4, (n, .inr (.inr (.inr (.inr (fun j => if j < n then some (ad (b + j)) else none)))))) := by
  unfold cZ
  rw [h]
  obtain ⟨c, hc2⟩ : ∃ c, c = 100 + b := ⟨_, rfl⟩
  rw [← hc2]
  match c, hc2 with
  | 0, e => omega
  | 1, e => omega
  | 2, e => omega
  | 3, e => omega
  | c + 4, e =>
    show (if c + 4 < 100 then _ else _) = _
    rw [if_neg (by omega), e, Nat.add_sub_cancel_left]
theorem cZ_0 {L : Lay} {ad : Nat → Nat} {cA : Nat → ClassId} {f : Nat → Int32} {k n : Nat} (h : L.2.1 k = (0, n)) : cZ L ad cA f k = .inl (cA 0, (n, .inl f)) := by unfold cZ; rw [h]; rfl
theorem cZ_1 {L : Lay} {ad : Nat → Nat} {cA : Nat → ClassId} {f : Nat → Int32} {k n : Nat} (h : L.2.1 k = (1, n)) : cZ L ad cA f k = .inl (cA 1, (n, .inl f)) := by unfold cZ; rw [h]; rfl
theorem cZ_2 {L : Lay} {ad : Nat → Nat} {cA : Nat → ClassId} {f : Nat → Int32} {k n : Nat} (h : L.2.1 k = (2, n)) : cZ L ad cA f k = .inl (cA 2, (n, .inl f)) := by unfold cZ; rw [h]; rfl
theorem cZ_3 {L : Lay} {ad : Nat → Nat} {cA : Nat → ClassId} {f : Nat → Int32} {k n : Nat} (h : L.2.1 k = (3, n)) : cZ L ad cA f k = .inl (cA 3, (n, .inr (.inr (.inr (.inr (fun j => some (ad (f j).toNatClampNeg))))))) := by unfold cZ; rw [h]; rfl
theorem j_get (K : jOk n cc own ret d κ) {idx ci j k z : Nat} {v : Value} (fl : FLk own idx ci j) (hs : L.2.1 k = (10 + ci, z)) (hk : k < L.1) (hc : ci < 90) (hv : (L.2.2 (jad κ) (X k) k ci)[j]? = some v) (dg : decode cc pc = .ok (.getfield idx, 3)) (kk : J L n κ X (pc + 3) lv (v :: st)) : J L n κ X pc lv (.ref (jad κ k) :: st) := by
  obtain ⟨p, l, e, R, s, m, args, below, meth, c, D, A, ad, cA, rs, Q⟩ := κ
  obtain ⟨hx, hb, hml, hown, hts, hr0, hlk, hK, hA, hfr, hlo⟩ := K
  intro H locs ls hP hD hS hl
  obtain ⟨⟨C, T, N⟩, g1, g2, g3, g4, g5⟩ := fl
  have g6 : T j = (C, (T j).2) := Prod.ext g5 rfl
  refine va_get hx hb hts g4 hown hK hP k (by rw [wZ_get hk, cZ_ob hs hc]; rfl) g1 j g2 (hts _ g3) (fun x h => ?_) hv dg (kk H locs ls hP hD hS hl)
  have g7 : (T j).1 = C := g5
  rw [g7] at h; exact h
theorem j_puti (K : jOk n cc own ret d κ) {idx ci j k z : Nat} {v : Int32} (fl : FPk own idx ci j .int) (hs : L.2.1 k = (10 + ci, z)) (hk : k < L.1) (hc : ci < 90) (hl9 : ∀ f, j < (L.2.2 (jad κ) f k ci).length) (hv : ∀ f, (L.2.2 (jad κ) f k ci).set j (.int v) = L.2.2 (jad κ) (upd f j v) k ci) (dg : decode cc pc = .ok (.putfield idx, 3)) (kk : J L n κ (pX X k (upd (X k) j v)) (pc + 3) lv st) : J L n κ X pc lv (.int v :: .ref (jad κ k) :: st) := by
  obtain ⟨p, l, e, R, s, m, args, below, meth, c, D, A, ad, cA, rs, Q⟩ := κ
  obtain ⟨hx, hb, hml, hown, hts, hr0, hlk, hK, hA, hfr, hlo⟩ := K
  intro H locs ls hP hD hS hl
  obtain ⟨⟨C, T, N⟩, ty0, g1, g2, g3, g4, g5, g6, g7, g8, g9⟩ := fl
  refine va_put hx hb hts g4 ty0 g6 g7 hown hK hP hD hS k (by rw [wZ_get hk, cZ_ob hs hc]; rfl) g1 j g2 (hts _ g3) (fun x h => ?_) g8 g9 rfl rfl (hl9 _) dg (fun H locs hP hD hS => ?_)
  · have g7 : (T j).1 = C := g5
    rw [g7] at h; exact h
  · have e : (jad (p, l, e, R, s, m, args, below, meth, c, D, A, ad, cA, rs, Q) k, (Sum.inr (ci, (L.2.2 (jad (p, l, e, R, s, m, args, below, meth, c, D, A, ad, cA, rs, Q)) (X k) k ci).set j (Value.int v)) : va_E)) = (ad k, cZ L ad cA (pX X k (upd (X k) j v) k) k) := by
      rw [hv, pX_self, cZ_ob hs hc]; rfl
    rw [e, wZ_set hk (fun q h => pX_ne X _ h)] at hP hD
    exact kk H locs ls hP hD hS hl
theorem j_putz (K : jOk n cc own ret d κ) {idx ci j k z : Nat} {v : Int32} (fl : FPk own idx ci j .boolean) (hs : L.2.1 k = (10 + ci, z)) (hk : k < L.1) (hc : ci < 90) (hl9 : ∀ f, j < (L.2.2 (jad κ) f k ci).length) (hv : ∀ f, (L.2.2 (jad κ) f k ci).set j (.int v) = L.2.2 (jad κ) (upd f j v) k ci) (hz : okB v = true) (dg : decode cc pc = .ok (.putfield idx, 3)) (kk : J L n κ (pX X k (upd (X k) j v)) (pc + 3) lv st) : J L n κ X pc lv (.int v :: .ref (jad κ k) :: st) := by
  obtain ⟨p, l, e, R, s, m, args, below, meth, c, D, A, ad, cA, rs, Q⟩ := κ
  obtain ⟨hx, hb, hml, hown, hts, hr0, hlk, hK, hA, hfr, hlo⟩ := K
  intro H locs ls hP hD hS hl
  obtain ⟨⟨C, T, N⟩, ty0, g1, g2, g3, g4, g5, g6, g7, g8, g9⟩ := fl
  refine va_put hx hb hts g4 ty0 g6 g7 hown hK hP hD hS k (by rw [wZ_get hk, cZ_ob hs hc]; rfl) g1 j g2 (hts _ g3) (fun x h => ?_) g8 g9 (okB_n hz) (okB_f hz) (hl9 _) dg (fun H locs hP hD hS => ?_)
  · have g7 : (T j).1 = C := g5
    rw [g7] at h; exact h
  · have e : (jad (p, l, e, R, s, m, args, below, meth, c, D, A, ad, cA, rs, Q) k, (Sum.inr (ci, (L.2.2 (jad (p, l, e, R, s, m, args, below, meth, c, D, A, ad, cA, rs, Q)) (X k) k ci).set j (Value.int v)) : va_E)) = (ad k, cZ L ad cA (pX X k (upd (X k) j v) k) k) := by
      rw [hv, pX_self, cZ_ob hs hc]; rfl
    rw [e, wZ_set hk (fun q h => pX_ne X _ h)] at hP hD
    exact kk H locs ls hP hD hS hl
theorem j_iaload (K : jOk n cc own ret d κ) {k z : Nat} {i : Int32} {a : Option β} (hs : L.2.1 k = (0, z)) (hk : k < L.1) (dg : decode cc pc = .ok (.iaload, 1)) (hr : (if okI i z = true then a else none) = some r) (kk : a = some r → J L n κ X (pc + 1) lv (.int (X k i.toNatClampNeg) :: st)) : J L n κ X pc lv (.int i :: .ref (jad κ k) :: st) := by
  obtain ⟨p, l, e, R, s, m, args, below, meth, c, D, A, ad, cA, rs, Q⟩ := κ
  obtain ⟨hx, hb, hml, hown, hts, hr0, hlk, hK, hA, hfr, hlo⟩ := K
  intro H locs ls hP hD hS hl
  obtain ⟨h1, h2⟩ := g_if hr
  exact va_iald hx hb hK hP k 0 (by rw [wZ_get hk, cZ_0 hs]; rfl) rfl (okI_in h1) dg (kk h2 H locs ls hP hD hS hl)
theorem j_baload (K : jOk n cc own ret d κ) {k z : Nat} {i : Int32} {a : Option β} (hs : L.2.1 k = (1, z)) (hk : k < L.1) (dg : decode cc pc = .ok (.baload, 1)) (hr : (if okI i z = true then a else none) = some r) (kk : a = some r → J L n κ X (pc + 1) lv (.int (X k i.toNatClampNeg) :: st)) : J L n κ X pc lv (.int i :: .ref (jad κ k) :: st) := by
  obtain ⟨p, l, e, R, s, m, args, below, meth, c, D, A, ad, cA, rs, Q⟩ := κ
  obtain ⟨hx, hb, hml, hown, hts, hr0, hlk, hK, hA, hfr, hlo⟩ := K
  intro H locs ls hP hD hS hl
  obtain ⟨h1, h2⟩ := g_if hr
  exact va_zald hx hb hK hP k 1 (by rw [wZ_get hk, cZ_1 hs]; rfl) rfl (okI_in h1) dg (kk h2 H locs ls hP hD hS hl)
theorem j_caload (K : jOk n cc own ret d κ) {k z : Nat} {i : Int32} {a : Option β} (hs : L.2.1 k = (2, z)) (hk : k < L.1) (dg : decode cc pc = .ok (.caload, 1)) (hr : (if okI i z = true then a else none) = some r) (kk : a = some r → J L n κ X (pc + 1) lv (.int (X k i.toNatClampNeg) :: st)) : J L n κ X pc lv (.int i :: .ref (jad κ k) :: st) := by
  obtain ⟨p, l, e, R, s, m, args, below, meth, c, D, A, ad, cA, rs, Q⟩ := κ
  obtain ⟨hx, hb, hml, hown, hts, hr0, hlk, hK, hA, hfr, hlo⟩ := K
  intro H locs ls hP hD hS hl
  obtain ⟨h1, h2⟩ := g_if hr
  exact va_cald hx hb hK hP k 2 (by rw [wZ_get hk, cZ_2 hs]; rfl) rfl (okI_in h1) dg (kk h2 H locs ls hP hD hS hl)
theorem j_iastore (K : jOk n cc own ret d κ) {k z : Nat} {i v : Int32} {a : Option β} (hs : L.2.1 k = (0, z)) (hk : k < L.1) (dg : decode cc pc = .ok (.iastore, 1)) (hr : (if okI i z = true then a else none) = some r) (kk : a = some r → J L n κ (pX X k (upd (X k) i.toNatClampNeg v)) (pc + 1) lv st) : J L n κ X pc lv (.int v :: .int i :: .ref (jad κ k) :: st) := by
  obtain ⟨p, l, e, R, s, m, args, below, meth, c, D, A, ad, cA, rs, Q⟩ := κ
  obtain ⟨hx, hb, hml, hown, hts, hr0, hlk, hK, hA, hfr, hlo⟩ := K
  intro H locs ls hP hD hS hl
  obtain ⟨h1, h2⟩ := g_if hr
  refine va_iast hx hb hK hP hD hS k 0 (by rw [wZ_get hk, cZ_0 hs]; rfl) rfl (okI_in h1) dg (fun H locs hP hD hS => ?_)
  have e : (jad (p, l, e, R, s, m, args, below, meth, c, D, A, ad, cA, rs, Q) k, (Sum.inl (cA 0, z, Sum.inl (upd (X k) i.toNatClampNeg v)) : va_E)) = (ad k, cZ L ad cA (pX X k (upd (X k) i.toNatClampNeg v) k) k) := by
    rw [pX_self, cZ_0 hs]; rfl
  rw [e, wZ_set hk (fun q h => pX_ne X _ h)] at hP hD
  exact kk h2 H locs ls hP hD hS hl
theorem j_bastore (K : jOk n cc own ret d κ) {k z : Nat} {i v : Int32} {a : Option β} (hs : L.2.1 k = (1, z)) (hk : k < L.1) (dg : decode cc pc = .ok (.bastore, 1)) (hr : (if okI i z = true then a else none) = some r) (kk : a = some r → J L n κ (pX X k (upd (X k) i.toNatClampNeg (vp_nar .boolean v))) (pc + 1) lv st) : J L n κ X pc lv (.int v :: .int i :: .ref (jad κ k) :: st) := by
  obtain ⟨p, l, e, R, s, m, args, below, meth, c, D, A, ad, cA, rs, Q⟩ := κ
  obtain ⟨hx, hb, hml, hown, hts, hr0, hlk, hK, hA, hfr, hlo⟩ := K
  intro H locs ls hP hD hS hl
  obtain ⟨h1, h2⟩ := g_if hr
  refine va_zast hx hb hK hP hD hS k 1 (by rw [wZ_get hk, cZ_1 hs]; rfl) rfl (okI_in h1) dg (fun H locs hP hD hS => ?_)
  have e : (jad (p, l, e, R, s, m, args, below, meth, c, D, A, ad, cA, rs, Q) k, (Sum.inl (cA 1, z, Sum.inl (upd (X k) i.toNatClampNeg (vp_nar .boolean v))) : va_E)) = (ad k, cZ L ad cA (pX X k (upd (X k) i.toNatClampNeg (vp_nar .boolean v)) k) k) := by
    rw [pX_self, cZ_1 hs]; rfl
  rw [e, wZ_set hk (fun q h => pX_ne X _ h)] at hP hD
  exact kk h2 H locs ls hP hD hS hl
theorem j_castore (K : jOk n cc own ret d κ) {k z : Nat} {i v : Int32} {a : Option β} (hs : L.2.1 k = (2, z)) (hk : k < L.1) (dg : decode cc pc = .ok (.castore, 1)) (hr : (if okI i z = true then a else none) = some r) (kk : a = some r → J L n κ (pX X k (upd (X k) i.toNatClampNeg (vp_nar .char v))) (pc + 1) lv st) : J L n κ X pc lv (.int v :: .int i :: .ref (jad κ k) :: st) := by
  obtain ⟨p, l, e, R, s, m, args, below, meth, c, D, A, ad, cA, rs, Q⟩ := κ
  obtain ⟨hx, hb, hml, hown, hts, hr0, hlk, hK, hA, hfr, hlo⟩ := K
  intro H locs ls hP hD hS hl
  obtain ⟨h1, h2⟩ := g_if hr
  refine va_cast hx hb hK hP hD hS k 2 (by rw [wZ_get hk, cZ_2 hs]; rfl) rfl (okI_in h1) dg (fun H locs hP hD hS => ?_)
  have e : (jad (p, l, e, R, s, m, args, below, meth, c, D, A, ad, cA, rs, Q) k, (Sum.inl (cA 2, z, Sum.inl (upd (X k) i.toNatClampNeg (vp_nar .char v))) : va_E)) = (ad k, cZ L ad cA (pX X k (upd (X k) i.toNatClampNeg (vp_nar .char v)) k) k) := by
    rw [pX_self, cZ_2 hs]; rfl
  rw [e, wZ_set hk (fun q h => pX_ne X _ h)] at hP hD
  exact kk h2 H locs ls hP hD hS hl
theorem j_aaload3 (K : jOk n cc own ret d κ) {k z : Nat} {i : Int32} {a : Option β} (hs : L.2.1 k = (3, z)) (hk : k < L.1) (dg : decode cc pc = .ok (.aaload, 1)) (hr : (if okI i z = true then a else none) = some r) (kk : a = some r → J L n κ X (pc + 1) lv (.ref (jad κ (X k i.toNatClampNeg).toNatClampNeg) :: st)) : J L n κ X pc lv (.int i :: .ref (jad κ k) :: st) := by
  obtain ⟨p, l, e, R, s, m, args, below, meth, c, D, A, ad, cA, rs, Q⟩ := κ
  obtain ⟨hx, hb, hml, hown, hts, hr0, hlk, hK, hA, hfr, hlo⟩ := K
  intro H locs ls hP hD hS hl
  obtain ⟨h1, h2⟩ := g_if hr
  exact va_aldq (f := fun j => some (ad (X k j).toNatClampNeg)) hx hb hK hP k 3 (by rw [wZ_get hk, cZ_3 hs]; rfl) rfl (okI_in h1) dg (kk h2 H locs ls hP hD hS hl)
theorem j_aastore3 (K : jOk n cc own ret d κ) {k z u ci y : Nat} {i : Int32} {a : Option β} (hs : L.2.1 k = (3, z)) (hk : k < L.1) (hu : L.2.1 u = (10 + ci, y)) (hku : u < L.1) (hc : ci < 90) (hcl : ∃ q : vw_C, vwCl[ci]? = some q ∧ q.1 = "SearchKeeper$Root") (h31 : u < 2 ^ 31) (dg : decode cc pc = .ok (.aastore, 1)) (hr : (if okI i z = true then a else none) = some r) (kk : a = some r → J L n κ (pX X k (upd (X k) i.toNatClampNeg (nI u))) (pc + 1) lv st) : J L n κ X pc lv (.ref (jad κ u) :: .int i :: .ref (jad κ k) :: st) := by
  obtain ⟨p, l, e, R, s, m, args, below, meth, c, D, A, ad, cA, rs, Q⟩ := κ
  obtain ⟨hx, hb, hml, hown, hts, hr0, hlk, hK, hA, hfr, hlo⟩ := K
  intro H locs ls hP hD hS hl
  obtain ⟨h1, h2⟩ := g_if hr
  obtain ⟨⟨C, T, N⟩, g1, g2⟩ := hcl
  refine va_astq hx hb hK hP hD hS k 3 u ci (by rw [wZ_get hk, cZ_3 hs]; rfl) (by rw [show (C, T, N).1 = "SearchKeeper$Root" from g2]; rfl) (by rw [wZ_get hku, cZ_ob hu hc]; rfl) g1 (okI_in h1) dg (fun H locs hP hD hS => ?_)
  have e : (jad (p, l, e, R, s, m, args, below, meth, c, D, A, ad, cA, rs, Q) k, (Sum.inl (cA 3, z, Sum.inr (Sum.inr (Sum.inr (Sum.inr (va_up (fun j => some (ad (X k j).toNatClampNeg)) i.toNatClampNeg (some (jad (p, l, e, R, s, m, args, below, meth, c, D, A, ad, cA, rs, Q) u))))))) : va_E)) = (ad k, cZ L ad cA (pX X k (upd (X k) i.toNatClampNeg (nI u)) k) k) := by
    rw [pX_self, cZ_3 hs]
    refine congrArg (fun f => (ad k, (Sum.inl (cA 3, z, Sum.inr (Sum.inr (Sum.inr (Sum.inr f)))) : va_E))) (funext fun j => ?_)
    by_cases hj : j = i.toNatClampNeg
    · rw [hj, va_up_self, pk_us, nI_clamp h31]; rfl
    · rw [va_up_ne _ _ hj, pk_un hj]
  rw [e, wZ_set hk (fun q h => pX_ne X _ h)] at hP hD
  exact kk h2 H locs ls hP hD hS hl
theorem j_aaload4 (K : jOk n cc own ret d κ) {k z b : Nat} {i : Int32} {a : Option β} (hs : L.2.1 k = (100 + b, z)) (hk : k < L.1) (dg : decode cc pc = .ok (.aaload, 1)) (hr : (if okI i z = true then a else none) = some r) (kk : a = some r → J L n κ X (pc + 1) lv (.ref (jad κ (b + i.toNatClampNeg)) :: st)) : J L n κ X pc lv (.int i :: .ref (jad κ k) :: st) := by
  obtain ⟨p, l, e, R, s, m, args, below, meth, c, D, A, ad, cA, rs, Q⟩ := κ
  obtain ⟨hx, hb, hml, hown, hts, hr0, hlk, hK, hA, hfr, hlo⟩ := K
  intro H locs ls hP hD hS hl
  obtain ⟨h1, h2⟩ := g_if hr
  have h8 := hP k _ (show (wZ L ad cA X ++ rs)[k]? = some (ad k, .inl (cA 4, (z, .inr (.inr (.inr (.inr (fun j => if j < z then some (ad (b + j)) else none))))))) by rw [wZ_get hk, cZ_ou hs])
  have h9 := W.aald (p := p) (l := l) (e := e) (R := R) (s := s) (m := m) (args := args) (below := below) (meth := meth) (c := c) (locs := locs) (cells := 0) (slots := 0) (Q := Q) (v := .ref (ad (b + i.toNatClampNeg))) (ty := .array .int) hx hb h8 ((hK.2 4 _ rfl).1 z (fun j => va_rf (if j < z then some (ad (b + j)) else none))) rfl (fun q => by cases q) (j := i) (by show ¬ (i < 0 ∨ (arrV _ _ _).slots.size ≤ _); rw [arrV_size]; exact okI_in h1) (by show (arrV _ _ _).slots[_]? = _; rw [arrV_read _ _ (okI_lt h1)]; simp only [if_pos (okI_lt h1)]; rfl) (g := F0 m pc ls (.int i :: .ref (ad k) :: st)) rfl rfl dg (kk h2 H locs ls hP hD hS hl)
  exact h9
theorem j_alen0 (K : jOk n cc own ret d κ) {k z : Nat} {v : Int32} (hs : L.2.1 k = (0, z)) (hk : k < L.1) (hv : Int32.ofNat z = v) (dg : decode cc pc = .ok (.arraylength, 1)) (kk : J L n κ X (pc + 1) lv (.int v :: st)) : J L n κ X pc lv (.ref (jad κ k) :: st) := by
  obtain ⟨p, l, e, R, s, m, args, below, meth, c, D, A, ad, cA, rs, Q⟩ := κ
  obtain ⟨hx, hb, hml, hown, hts, hr0, hlk, hK, hA, hfr, hlo⟩ := K
  intro H locs ls hP hD hS hl
  exact va_alen hx hb hK hP k 0 (by rw [wZ_get hk, cZ_0 hs]; rfl) rfl (by exact hv) dg (kk H locs ls hP hD hS hl)
theorem jFin_ret {x : JE} {thr : Bool} {p : Program} {l : Launch} {e : Env} {R : Room} {s : State} {m : MethodId} {args : Array Value} {below : List Frame} {meth : Method} {c : Code} {D : va_G} {A : Nat → Prop} {ad : Nat → Nat} {cA : Nat → ClassId} {rs : va_W} {Q : State → Prop} {H : Heap} {locs : List Loc} {g : JFrame}
    (F : jFin L thr x (p, l, e, R, s, m, args, below, meth, c, D, A, ad, cA, rs, Q)) (k : ∀ kc ks, W p l e R s m args below meth c H locs kc ks (MQ below (jQc L D ad cA rs A x) args s kc ks A) g) : W p l e R s m args below meth c H locs 0 0 Q g := by
  unfold jFin at F
  cases thr with
  | false =>
    have F : Q = _ := F
    rw [F]; exact k 0 0
  | true =>
    have F : Q = _ ∧ _ := F
    rw [F.1]
    exact W.widen (k := 1) (n := 6) (Nat.zero_le _) (Nat.zero_le _) (vx_ret (k 1 6))
theorem j_ireturn (K : jOk n cc own ret d κ) {thr : Bool} {out : β → JE} {ρ : β} {v : Int32} (dg : decode cc pc = .ok (.ireturn, 1)) (hi : ret = some .int) (F : jFin L thr (out r) κ) (hr : some ρ = some r) (ho : out ρ = (none, some (.int v), X)) : J L n κ X pc lv [.int v] := by
  obtain ⟨p, l, e, R, s, m, args, below, meth, c, D, A, ad, cA, rs, Q⟩ := κ
  obtain ⟨hx, hb, hml, hown, hts, hr0, hlk, hK, hA, hfr, hlo⟩ := K
  intro H locs ls hP hD hS hl
  cases hr
  rw [ho] at F
  exact jFin_ret F (fun kc ks => W.iret hx hb (hr0.trans hi) (fun t ht hW => ⟨⟨rfl, rfl, by rw [ht]; exact hP⟩, hS.F ht⟩) hS.2.2 dg hlk)
theorem j_zreturn (K : jOk n cc own ret d κ) {thr : Bool} {out : β → JE} {ρ : β} {v : Int32} (dg : decode cc pc = .ok (.ireturn, 1)) (hi : ret = some .boolean) (hz : okB v = true) (F : jFin L thr (out r) κ) (hr : some ρ = some r) (ho : out ρ = (none, some (.int v), X)) : J L n κ X pc lv [.int v] := by
  obtain ⟨p, l, e, R, s, m, args, below, meth, c, D, A, ad, cA, rs, Q⟩ := κ
  obtain ⟨hx, hb, hml, hown, hts, hr0, hlk, hK, hA, hfr, hlo⟩ := K
  intro H locs ls hP hD hS hl
  cases hr
  rw [ho] at F
  exact jFin_ret F (fun kc ks => W.zret hx hb (hr0.trans hi) (okB_n hz) (fun t ht hW => ⟨⟨rfl, rfl, by rw [ht]; exact hP⟩, hS.F ht⟩) hS.2.2 dg hlk)
theorem j_creturn (K : jOk n cc own ret d κ) {thr : Bool} {out : β → JE} {ρ : β} {v : Int32} (dg : decode cc pc = .ok (.ireturn, 1)) (hi : ret = some .char) (hz : vp_nar .char v = v) (F : jFin L thr (out r) κ) (hr : some ρ = some r) (ho : out ρ = (none, some (.int v), X)) : J L n κ X pc lv [.int v] := by
  obtain ⟨p, l, e, R, s, m, args, below, meth, c, D, A, ad, cA, rs, Q⟩ := κ
  obtain ⟨hx, hb, hml, hown, hts, hr0, hlk, hK, hA, hfr, hlo⟩ := K
  intro H locs ls hP hD hS hl
  cases hr
  rw [ho] at F
  exact jFin_ret F (fun kc ks => W.zret hx hb (hr0.trans hi) (by have h9 : narrow .char (.int v) = .int (vp_nar .char v) := rfl; rw [h9, hz]) (fun t ht hW => ⟨⟨rfl, rfl, by rw [ht]; exact hP⟩, hS.F ht⟩) hS.2.2 dg hlk)
theorem j_return (K : jOk n cc own ret d κ) {thr : Bool} {out : β → JE} {ρ : β} (dg : decode cc pc = .ok (.return_, 1)) (hi : ret = none) (F : jFin L thr (out r) κ) (hr : some ρ = some r) (ho : out ρ = (none, none, X)) : J L n κ X pc lv [] := by
  obtain ⟨p, l, e, R, s, m, args, below, meth, c, D, A, ad, cA, rs, Q⟩ := κ
  obtain ⟨hx, hb, hml, hown, hts, hr0, hlk, hK, hA, hfr, hlo⟩ := K
  intro H locs ls hP hD hS hl
  cases hr
  rw [ho] at F
  exact jFin_ret F (fun kc ks => W.vret hx hb (hr0.trans hi) (fun t ht hW => ⟨⟨rfl, rfl, by rw [ht]; exact hP⟩, hS.F ht⟩) hS.2.2 dg hlk)
theorem j_areturn (K : jOk n cc own ret d κ) {thr : Bool} {out : β → JE} {ρ : β} {q : Nat} {rt : FieldType} (dg : decode cc pc = .ok (.areturn, 1)) (hi : ret = some rt) (hrt : (∃ n, rt = .object n) ∨ ∃ t, rt = .array t) (F : jFin L thr (out r) κ) (hr : some ρ = some r) (ho : out ρ = (none, some (.ref (jad κ q)), X)) : J L n κ X pc lv [.ref (jad κ q)] := by
  obtain ⟨p, l, e, R, s, m, args, below, meth, c, D, A, ad, cA, rs, Q⟩ := κ
  obtain ⟨hx, hb, hml, hown, hts, hr0, hlk, hK, hA, hfr, hlo⟩ := K
  intro H locs ls hP hD hS hl
  cases hr
  rw [ho] at F
  exact jFin_ret F (fun kc ks => W.aret hx hb (hr0.trans hi) hrt (Or.inr ⟨_, rfl⟩) (fun t ht hW => ⟨⟨rfl, rfl, by rw [ht]; exact hP⟩, hS.F ht⟩) hS.2.2 dg hlk)
theorem j_areturnN (K : jOk n cc own ret d κ) {thr : Bool} {out : β → JE} {ρ : β} {rt : FieldType} (dg : decode cc pc = .ok (.areturn, 1)) (hi : ret = some rt) (hrt : (∃ n, rt = .object n) ∨ ∃ t, rt = .array t) (F : jFin L thr (out r) κ) (hr : some ρ = some r) (ho : out ρ = (none, some .null, X)) : J L n κ X pc lv [.null] := by
  obtain ⟨p, l, e, R, s, m, args, below, meth, c, D, A, ad, cA, rs, Q⟩ := κ
  obtain ⟨hx, hb, hml, hown, hts, hr0, hlk, hK, hA, hfr, hlo⟩ := K
  intro H locs ls hP hD hS hl
  cases hr
  rw [ho] at F
  exact jFin_ret F (fun kc ks => W.aret hx hb (hr0.trans hi) hrt (Or.inl rfl) (fun t ht hW => ⟨⟨rfl, rfl, by rw [ht]; exact hP⟩, hS.F ht⟩) hS.2.2 dg hlk)
theorem j_max (K : jOk n cc own ret d κ) {x y : Int32} {idx : Nat} (ml : Cond.methodLink own idx Lib.Math.max.name ∈ gTbl ∧ Cond.static Lib.Math.max.name ∈ gTbl ∧ Cond.initialized "java/lang/Math" ∈ gTbl ∧ Cond.code Lib.Math.max.name Lib.Math.max.code 2 (some .int) ∈ gTbl) (hd : 1 ≤ d) (hst : (st.map fun v => v.category).sum ≤ 8) (dg : decode cc pc = .ok (.invokestatic idx, 3)) (kk : J L n κ X (pc + 3) lv (.int (if x < y then y else x) :: st)) : J L n κ X pc lv (.int y :: .int x :: st) := by
  obtain ⟨p, l, e, R, s, m, args, below, meth, c, D, A, ad, cA, rs, Q⟩ := κ
  obtain ⟨hx, hb, hml, hown, hts, hr0, hlk, hK, hA, hfr, hlo⟩ := K
  intro H locs ls hP hD hS hl
  exact va_mmax hx hb (hml.trans hl.1.symm) hown (hts _ ml.1) (hts _ ml.2.1) (hts _ ml.2.2.1) (hts _ ml.2.2.2) (by omega) (by omega) (Nat.zero_le _) (Nat.zero_le _) dg (kk H locs ls hP hD hS hl)
theorem j_min (K : jOk n cc own ret d κ) {x y : Int32} {idx : Nat} (ml : Cond.methodLink own idx Lib.Math.min.name ∈ gTbl ∧ Cond.static Lib.Math.min.name ∈ gTbl ∧ Cond.initialized "java/lang/Math" ∈ gTbl ∧ Cond.code Lib.Math.min.name Lib.Math.min.code 2 (some .int) ∈ gTbl) (hd : 1 ≤ d) (hst : (st.map fun v => v.category).sum ≤ 8) (dg : decode cc pc = .ok (.invokestatic idx, 3)) (kk : J L n κ X (pc + 3) lv (.int (if y < x then y else x) :: st)) : J L n κ X pc lv (.int y :: .int x :: st) := by
  obtain ⟨p, l, e, R, s, m, args, below, meth, c, D, A, ad, cA, rs, Q⟩ := κ
  obtain ⟨hx, hb, hml, hown, hts, hr0, hlk, hK, hA, hfr, hlo⟩ := K
  intro H locs ls hP hD hS hl
  exact va_mmin hx hb (hml.trans hl.1.symm) hown (hts _ ml.1) (hts _ ml.2.1) (hts _ ml.2.2.1) (hts _ ml.2.2.2) (by omega) (by omega) (Nat.zero_le _) (Nat.zero_le _) dg (kk H locs ls hP hD hS hl)
theorem j_abs (K : jOk n cc own ret d κ) {x : Int32} {idx : Nat} (ml : Cond.methodLink own idx Lib.Math.abs.name ∈ gTbl ∧ Cond.static Lib.Math.abs.name ∈ gTbl ∧ Cond.initialized "java/lang/Math" ∈ gTbl ∧ Cond.code Lib.Math.abs.name Lib.Math.abs.code 1 (some .int) ∈ gTbl) (hd : 1 ≤ d) (hst : (st.map fun v => v.category).sum ≤ 8) (dg : decode cc pc = .ok (.invokestatic idx, 3)) (kk : J L n κ X (pc + 3) lv (.int (if 0 ≤ x then x else 0 - x) :: st)) : J L n κ X pc lv (.int x :: st) := by
  obtain ⟨p, l, e, R, s, m, args, below, meth, c, D, A, ad, cA, rs, Q⟩ := κ
  obtain ⟨hx, hb, hml, hown, hts, hr0, hlk, hK, hA, hfr, hlo⟩ := K
  intro H locs ls hP hD hS hl
  exact va_mabs hx hb (hml.trans hl.1.symm) hown (hts _ ml.1) (hts _ ml.2.1) (hts _ ml.2.2.1) (hts _ ml.2.2.2) (by omega) (by omega) (Nat.zero_le _) (Nat.zero_le _) dg (kk H locs ls hP hD hS hl)
end JR
/-! ===== contracts ===== -/
def jPc (L : Lay) (D : va_G) (ad : Nat → Nat) (cA : Nat → ClassId) (rs : va_W) (X : JX) (sz : Nat) (av : List Value) : Array Value → State → Prop := va_Pc av (fun U => U.heap.size = sz ∧ va_P D vwCl (wZ L ad cA X ++ rs) U.heap ∧ va_K D vwCl (jTy cA) U ∧ va_D (fun _ => True) (wZ L ad cA X ++ rs))
/-- the contract of a method that throws nothing and makes nothing: called with av in the world X it ends as x says -/
def Cal (L : Lay) (y : MethodName) (cy : ByteArray) (ny : Nat) (ry : Option FieldType) (dy : Nat) (av : (Nat → Nat) → List Value) (X : JX) (x : (Nat → Nat) → JE) : Prop :=
  ∀ (l : Launch) (D : va_G) (ad : Nat → Nat) (cA : Nat → ClassId) (rs : va_W) (sz : Nat), Met l y (.code y cy ny ry :: gTbl) (jRm dy 0 0) (jPc L D ad cA rs X sz (av ad)) (jQc L D ad cA rs (va_A (wZ L ad cA X ++ rs) sz) (x ad)) 0 0 (va_A (wZ L ad cA X ++ rs) sz)
theorem Cal.of {L : Lay} {y : MethodName} {cy : ByteArray} {ny : Nat} {ry : Option FieldType} {dy : Nat} {av : (Nat → Nat) → List Value} {X : JX} {x : (Nat → Nat) → JE} {own : String} (lv : (Nat → Nat) → List (Nat × Value)) (hy : plainName y.cls = true) (ho : y.cls = own) (hlen : ∀ ad, (lg_sl (av ad)).length ≤ ny) (hlv : ∀ ad, lv_args 0 (av ad) = lv ad)
    (k : ∀ κ : JK, jOk ny cy own ry dy κ → jFin L false (x (jad κ)) κ → J L ny κ X 0 (lv (jad κ)) []) : Cal L y cy ny ry dy av X x := by
  intro l D ad cA rs sz
  refine Met.ofW (cc := cy) (maxL := ny) (ret := ry) hy rfl ?_
  intro p e s m args below meth c s₁ B hml hv
  obtain ⟨rfl, hsz, hP, hK, hD0⟩ := hv
  have hx := B.exec
  have hb := B.bytes
  have hr := B.returns
  have hts := atoms_spec (ws := Cond.code y cy ny ry :: gTbl) B.pre
  have hown : s.vm.findClass own = some m.cls := by rw [← ho]; exact findClass_of_methodNamed B.named
  have hlocks := B.notSynchronized
  subst hsz
  have hA : ∀ q : Nat, s.heap.size ≤ q → (va_A (wZ L ad cA X ++ rs) s.heap.size) q := fun q h => Or.inr h
  have hl := lv_entry (av ad) (n := ny) (hlen ad)
  rw [lg_entry_eq]
  have h := k (p, l, e, (headSpec (Cond.code y cy ny ry :: gTbl) (jRm dy 0 0)).room, s, m, (av ad).toArray, below, meth, c, D, va_A (wZ L ad cA X ++ rs) s.heap.size, ad, cA, rs, MQ below (jQc L D ad cA rs (va_A (wZ L ad cA X ++ rs) s.heap.size) (x ad)) (av ad).toArray s 0 0 (va_A (wZ L ad cA X ++ rs) s.heap.size))
    ⟨hx, hb, hml, hown, fun w hw => hts w (List.mem_cons_of_mem _ hw), hr, hlocks, hK, hA, Nat.le_refl _, Nat.le_refl _⟩ rfl
  rw [hlv ad] at hl
  exact h s.heap [] _ hP hD0.self va_S.rf hl
/-- the words of a call: method y of na parameters, at own's entry idx -/
def MLk (own : String) (idx : Nat) (y : MethodName) (cy : ByteArray) (ny : Nat) (ry : Option FieldType) (na : Nat) : Prop := GoodIn gTbl (wsV own idx y.cls y (.code y cy ny ry :: gTbl)) ∧ (y.cls ≠ "java/lang/invoke/MethodHandle" ∧ y.cls ≠ "java/lang/invoke/VarHandle" ∧ (parseMethodDescriptor y.desc).map (fun d => d.parameters.length) = some na)
def MSk (own : String) (idx : Nat) (y : MethodName) (cy : ByteArray) (ny : Nat) (ry : Option FieldType) (na : Nat) : Prop := GoodIn gTbl (va_wsS own idx y (.code y cy ny ry :: gTbl)) ∧ (y.cls ≠ "java/lang/invoke/MethodHandle" ∧ y.cls ≠ "java/lang/invoke/VarHandle" ∧ (parseMethodDescriptor y.desc).map (fun d => d.parameters.length) = some na)
theorem goodIn_c {b a : List Cond} {w : Cond} (h : w ∈ b) (hg : goodWord w = true) (t : GoodIn b a) : GoodIn b (w :: a) := fun v hv => (List.mem_cons.mp hv).elim (fun e => by rw [e]; exact ⟨h, good_of_word hg⟩) (t v)
theorem MLk.of {own : String} {idx : Nat} {y : MethodName} {cy : ByteArray} {ny : Nat} {ry : Option FieldType} {na : Nat} (i1 i2 i3 i4 i5 : Nat) (h1 : lw_tbl[i1]? = some (.methodLink own idx y)) (h2 : lw_tbl[i2]? = some (.instanceMethod y)) (h3 : lw_tbl[i3]? = some (.selects y.cls y y)) (h4 : lw_tbl[i4]? = some (.initialized y.cls)) (h5 : lw_tbl[i5]? = some (.code y cy ny ry)) (hd : y.cls ≠ "java/lang/invoke/MethodHandle" ∧ y.cls ≠ "java/lang/invoke/VarHandle" ∧ (parseMethodDescriptor y.desc).map (fun d => d.parameters.length) = some na) : MLk own idx y cy ny ry na :=
  ⟨goodIn_c (gTbl_at h1 rfl) rfl (goodIn_c (gTbl_at h2 rfl) rfl (goodIn_c (gTbl_at h3 rfl) rfl (goodIn_c (gTbl_at h4 rfl) rfl (goodIn_c (gTbl_at h5 rfl) rfl gTbl_good)))), hd⟩
theorem MSk.of {own : String} {idx : Nat} {y : MethodName} {cy : ByteArray} {ny : Nat} {ry : Option FieldType} {na : Nat} (i1 i2 i3 i4 : Nat) (h1 : lw_tbl[i1]? = some (.methodLink own idx y)) (h2 : lw_tbl[i2]? = some (.static y)) (h3 : lw_tbl[i3]? = some (.initialized y.cls)) (h4 : lw_tbl[i4]? = some (.code y cy ny ry)) (hd : y.cls ≠ "java/lang/invoke/MethodHandle" ∧ y.cls ≠ "java/lang/invoke/VarHandle" ∧ (parseMethodDescriptor y.desc).map (fun d => d.parameters.length) = some na) : MSk own idx y cy ny ry na :=
  ⟨goodIn_c (gTbl_at h1 rfl) rfl (goodIn_c (gTbl_at h2 rfl) rfl (goodIn_c (gTbl_at h3 rfl) rfl (goodIn_c (gTbl_at h4 rfl) rfl gTbl_good))), hd⟩
section JC
variable {p : Program} {l : Launch} {e : Env} {R : Room} {s : State} {m : MethodId} {args : Array Value} {below : List Frame} {meth : Method} {c : Code} {H : Heap} {locs : List Loc} {cells slots : Nat} {Q : State → Prop}
variable {pc : Nat} {ls : Array Slot} {rest st0 : List Value} {a : Array Value} {A0 A1 : Nat → Prop} {H0 : Heap} {mc ms : Nat} {free : Addr → Prop}
theorem w_call {Qa : State → Outcome → State → Prop} {rv : Option Value} {P : Heap → Prop} (hr : va_Run p l e R s m args below meth c H locs cells slots mc ms (F0 m pc ls st0) rest Qa free) (hq : ∀ (st : State) (v : Option Value) (t : State), Qa st (.returned v) t → v = rv ∧ P t.heap ∧ va_F A1 st t) (hS : va_S A0 H0 H locs) (hA : ∀ q, q < H.size → A1 q → A0 q) (hf : ∀ q, free q → A0 q)
    (kk : ∀ (H1 : Heap) (locs1 : List Loc), P H1 → va_S A0 H0 H1 locs1 → W p l e R s m args below meth c H1 locs1 (cells + mc) (slots + ms) Q (F0 m (pc + 3) ls (rv.toList ++ rest))) : W p l e R s m args below meth c H locs cells slots Q (F0 m pc ls st0) := by
  intro T hT X
  obtain ⟨v, st₀, t, T', L, h0, X', hL, e1, e2, hqa, st⟩ := hr T hT X
  obtain ⟨rfl, hp, hz, hk⟩ := hq _ _ _ hqa
  rw [h0] at hz hk
  obtain ⟨t2, a1, b1⟩ := kk T'.heap (locs ++ L) (by rw [e1]; exact hp)
    ⟨Nat.le_trans hS.1 (by rw [e1]; exact hz), fun q h1 h2 => by rw [e1, hk q (Nat.lt_of_lt_of_le h1 hS.1) (fun z => h2 (hA q (Nat.lt_of_lt_of_le h1 hS.1) z))]; exact hS.2.1 q h1 h2, fun q hq => by
      rcases List.mem_append.mp hq with h | h
      · exact hS.2.2 q h
      · exact hf _ (hL q h)⟩ T' rfl X'
  exact ⟨t2, st t2 a1, b1⟩
end JC
theorem jA_lt {A : Nat → Prop} {ws : va_W} {H : Heap} (hD : va_D A ws) : ∀ q, q < H.size → va_A ws H.size q → A q := fun q h1 h2 => h2.elim (fun ⟨k, e, h⟩ => hD.2 k (q, e) h) (fun h => absurd h (Nat.not_le.mpr h1))
theorem jA_all {A : Nat → Prop} {ws : va_W} {H0 H : Heap} {locs : List Loc} (hD : va_D A ws) (hS : va_S A H0 H locs) (hA : ∀ q, H0.size ≤ q → A q) : ∀ q, va_A ws H.size q → A q := fun q h => h.elim (fun ⟨k, e, h⟩ => hD.2 k (q, e) h) (fun h => hA q (Nat.le_trans hS.1 h))
theorem jPc_blind {L : Lay} {D : va_G} {ad : Nat → Nat} {cA : Nat → ClassId} {rs : va_W} {X : JX} {sz : Nat} {av : List Value} : FrameBlind (jPc L D ad cA rs X sz av) := fun a U g mk q => by
  obtain ⟨q0, q1, qP, qK, qD⟩ := q
  exact ⟨q0, q1, qP, va_K.moved (u := U) (U := U.calling g mk a) (Vm.Alike.refl U.vm) qK, qD⟩
section JV
variable {L : Lay} {n : Nat} {cc : ByteArray} {own : String} {ret : Option FieldType} {d : Nat} {κ : JK} {X : JX} {pc : Nat} {lv : List (Nat × Value)} {st : List Value} {β : Type} {r : β}
variable {y : MethodName} {cy : ByteArray} {ny : Nat} {ry : Option FieldType} {dy idx na : Nat}

theorem j_callV (K : jOk n cc own ret d κ) {av : (Nat → Nat) → List Value} {x : (Nat → Nat) → JE} {k ci z : Nat} {As : List Value} {rv : Option Value} {X' : JX} (hc : Cal L y cy ny ry dy av X x) (ml : MLk own idx y cy ny ry na) (hcl : ∃ q : vw_C, vwCl[ci]? = some q ∧ q.1 = y.cls) (hs : L.2.1 k = (10 + ci, z)) (hk : k < L.1) (hci : ci < 90) (hav : av (jad κ) = .ref (jad κ k) :: As) (hn : As.length = na) (hd : dy + 1 ≤ d) (hny : ny ≤ 20) (hst : (st.map fun v => v.category).sum ≤ 8) (hxx : x (jad κ) = (none, rv, X')) (dg : decode cc pc = .ok (.invokevirtual idx, 3)) (kk : J L n κ X' (pc + 3) lv (rv.toList ++ st)) : J L n κ X pc lv (As.reverse ++ .ref (jad κ k) :: st) := by
  obtain ⟨p, l, e, R, s, m, args, below, meth, c, D, A, ad, cA, rs, Q⟩ := κ
  obtain ⟨hx, hb, hml, hown, hts, hr0, hlk, hK, hA, hfr, hlo⟩ := K
  intro H locs ls hP hD hS hl
  obtain ⟨⟨C, T, N⟩, g1, g2⟩ := hcl
  have hM := hc l D ad cA rs H.size
  have hav' : av ad = .ref (ad k) :: As := hav
  have hxx' : x ad = (none, rv, X') := hxx
  rw [hav', hxx'] at hM
  have cw := cwV (R := R) (s := s) (args := args) (own := own) (C := y.cls) (index := idx) (y := y) (bytes := cy) (maxL := ny) (ret := ry) (Ts := gTbl) (ws := .code y cy ny ry :: gTbl) (ws' := gTbl) (rm := jRm dy 0 0) (mc := 0) (ms := 0) na hts ml.1 rfl rfl rfl ⟨rfl, ml.2⟩ ⟨by show dy + 1 ≤ _; omega, by show 8 + (ny + 11) + 39 * dy ≤ _; omega⟩
  refine w_call (rv := rv) (P := fun H => va_P D vwCl (wZ L ad cA X' ++ rs) H) (va_runV (As := As) (rest := st) ⟨hx, hb, hml, hown, hts⟩ hM cw ⟨jPc_blind, ?_, fun U hU hW => ⟨rfl, by rw [hU], by rw [hU]; exact hP, va_K.moved hW.alike hK, hD.weaken (fun _ _ _ _ => trivial)⟩⟩ rfl hn (hl.1) rfl (lv_room hst) dg ⟨Nat.zero_le _, Nat.zero_le _⟩) (fun st v t h => ⟨?_, h.1.2.2, h.2⟩) hS (jA_lt hD) (jA_all hD hS hA) (fun H locs hP hS => kk H locs ls hP (wZ_D hD) hS hl)
  · rw [← show (C, T, N).1 = y.cls from g2]
    exact va_recv hK hP (ci := ci) (q0 := k) g1 (by rw [wZ_get hk, cZ_ob hs hci])
  · exact Outcome.returned.inj h.1.2.1
theorem j_callS (K : jOk n cc own ret d κ) {av : (Nat → Nat) → List Value} {x : (Nat → Nat) → JE} {As : List Value} {rv : Option Value} {X' : JX} (hc : Cal L y cy ny ry dy av X x) (ml : MSk own idx y cy ny ry na) (hav : av (jad κ) = As) (hn : As.length = na) (hd : dy + 1 ≤ d) (hny : ny ≤ 20) (hst : (st.map fun v => v.category).sum ≤ 8) (hxx : x (jad κ) = (none, rv, X')) (dg : decode cc pc = .ok (.invokestatic idx, 3)) (kk : J L n κ X' (pc + 3) lv (rv.toList ++ st)) : J L n κ X pc lv (As.reverse ++ st) := by
  obtain ⟨p, l, e, R, s, m, args, below, meth, c, D, A, ad, cA, rs, Q⟩ := κ
  obtain ⟨hx, hb, hml, hown, hts, hr0, hlk, hK, hA, hfr, hlo⟩ := K
  intro H locs ls hP hD hS hl
  have hM := hc l D ad cA rs H.size
  have hav' : av ad = As := hav
  have hxx' : x ad = (none, rv, X') := hxx
  rw [hav', hxx'] at hM
  have cw := va_cwS (R := R) (s := s) (args := args) (own := own) (index := idx) (y := y) (bytes := cy) (maxL := ny) (ret := ry) (Ts := gTbl) (ws := .code y cy ny ry :: gTbl) (ws' := gTbl) (rm := jRm dy 0 0) (mc := 0) (ms := 0) na hts ml.1 rfl rfl rfl ml.2 ⟨by show dy + 1 ≤ _; omega, by show 8 + (ny + 11) + 39 * dy ≤ _; omega⟩
  refine w_call (rv := rv) (P := fun H => va_P D vwCl (wZ L ad cA X' ++ rs) H) (va_runS (As := As) (rest := st) ⟨hx, hb, hml, hown, hts⟩ hM cw ⟨jPc_blind, fun U hU hW => ⟨rfl, by rw [hU], by rw [hU]; exact hP, va_K.moved hW.alike hK, hD.weaken (fun _ _ _ _ => trivial)⟩⟩ rfl hn (hl.1) rfl (lv_room hst) dg ⟨Nat.zero_le _, Nat.zero_le _⟩) (fun st v t h => ⟨?_, h.1.2.2, h.2⟩) hS (jA_lt hD) (jA_all hD hS hA) (fun H locs hP hS => kk H locs ls hP (wZ_D hD) hS hl)
  exact Outcome.returned.inj h.1.2.1
theorem j_vI0 (K : jOk n cc own ret d κ) {ex : Option (Int32)} {g : Int32 → Option β} {av : (Nat → Nat) → List Value} {k ci z : Nat} (hr : ex.bind g = some r) (hc : ∀ v, ex = some v → Cal L y cy ny ry dy av X ((fun v _ => (none, some (.int v), X)) v)) (ml : MLk own idx y cy ny ry 0) (hcl : ∃ q : vw_C, vwCl[ci]? = some q ∧ q.1 = y.cls) (hs : L.2.1 k = (10 + ci, z)) (hk : k < L.1) (hci : ci < 90) (hav : av (jad κ) = [.ref (jad κ k)]) (hd : dy + 1 ≤ d) (hny : ny ≤ 20) (hst : (st.map fun v => v.category).sum ≤ 8) (dg : decode cc pc = .ok (.invokevirtual idx, 3)) (kk : ∀ v, ex = some v → g v = some r → J L n κ X (pc + 3) lv (.int v :: st)) : J L n κ X pc lv (.ref (jad κ k) :: st) := by
  obtain ⟨v, h1, h2⟩ := g_bd hr
  exact j_callV K (As := []) (rv := some (.int v)) (hc v h1) ml hcl hs hk hci hav rfl hd hny hst rfl dg (kk v h1 h2)
theorem j_vI1 (K : jOk n cc own ret d κ) {ex : Option (Int32)} {g : Int32 → Option β} {av : (Nat → Nat) → List Value} {k ci z : Nat} {a1 : Value} (hr : ex.bind g = some r) (hc : ∀ v, ex = some v → Cal L y cy ny ry dy av X ((fun v _ => (none, some (.int v), X)) v)) (ml : MLk own idx y cy ny ry 1) (hcl : ∃ q : vw_C, vwCl[ci]? = some q ∧ q.1 = y.cls) (hs : L.2.1 k = (10 + ci, z)) (hk : k < L.1) (hci : ci < 90) (hav : av (jad κ) = [.ref (jad κ k), a1]) (hd : dy + 1 ≤ d) (hny : ny ≤ 20) (hst : (st.map fun v => v.category).sum ≤ 8) (dg : decode cc pc = .ok (.invokevirtual idx, 3)) (kk : ∀ v, ex = some v → g v = some r → J L n κ X (pc + 3) lv (.int v :: st)) : J L n κ X pc lv (a1 :: .ref (jad κ k) :: st) := by
  obtain ⟨v, h1, h2⟩ := g_bd hr
  exact j_callV K (As := [a1]) (rv := some (.int v)) (hc v h1) ml hcl hs hk hci hav rfl hd hny hst rfl dg (kk v h1 h2)
theorem j_sI1 (K : jOk n cc own ret d κ) {ex : Option (Int32)} {g : Int32 → Option β} {av : (Nat → Nat) → List Value} {a1 : Value} (hr : ex.bind g = some r) (hc : ∀ v, ex = some v → Cal L y cy ny ry dy av X ((fun v _ => (none, some (.int v), X)) v)) (ml : MSk own idx y cy ny ry 1) (hav : av (jad κ) = [a1]) (hd : dy + 1 ≤ d) (hny : ny ≤ 20) (hst : (st.map fun v => v.category).sum ≤ 8) (dg : decode cc pc = .ok (.invokestatic idx, 3)) (kk : ∀ v, ex = some v → g v = some r → J L n κ X (pc + 3) lv (.int v :: st)) : J L n κ X pc lv (a1 :: st) := by
  obtain ⟨v, h1, h2⟩ := g_bd hr
  exact j_callS K (As := [a1]) (rv := some (.int v)) (hc v h1) ml hav rfl hd hny hst rfl dg (kk v h1 h2)
theorem j_vI2 (K : jOk n cc own ret d κ) {ex : Option (Int32)} {g : Int32 → Option β} {av : (Nat → Nat) → List Value} {k ci z : Nat} {a1 a2 : Value} (hr : ex.bind g = some r) (hc : ∀ v, ex = some v → Cal L y cy ny ry dy av X ((fun v _ => (none, some (.int v), X)) v)) (ml : MLk own idx y cy ny ry 2) (hcl : ∃ q : vw_C, vwCl[ci]? = some q ∧ q.1 = y.cls) (hs : L.2.1 k = (10 + ci, z)) (hk : k < L.1) (hci : ci < 90) (hav : av (jad κ) = [.ref (jad κ k), a1, a2]) (hd : dy + 1 ≤ d) (hny : ny ≤ 20) (hst : (st.map fun v => v.category).sum ≤ 8) (dg : decode cc pc = .ok (.invokevirtual idx, 3)) (kk : ∀ v, ex = some v → g v = some r → J L n κ X (pc + 3) lv (.int v :: st)) : J L n κ X pc lv (a2 :: a1 :: .ref (jad κ k) :: st) := by
  obtain ⟨v, h1, h2⟩ := g_bd hr
  exact j_callV K (As := [a1, a2]) (rv := some (.int v)) (hc v h1) ml hcl hs hk hci hav rfl hd hny hst rfl dg (kk v h1 h2)
theorem j_sI2 (K : jOk n cc own ret d κ) {ex : Option (Int32)} {g : Int32 → Option β} {av : (Nat → Nat) → List Value} {a1 a2 : Value} (hr : ex.bind g = some r) (hc : ∀ v, ex = some v → Cal L y cy ny ry dy av X ((fun v _ => (none, some (.int v), X)) v)) (ml : MSk own idx y cy ny ry 2) (hav : av (jad κ) = [a1, a2]) (hd : dy + 1 ≤ d) (hny : ny ≤ 20) (hst : (st.map fun v => v.category).sum ≤ 8) (dg : decode cc pc = .ok (.invokestatic idx, 3)) (kk : ∀ v, ex = some v → g v = some r → J L n κ X (pc + 3) lv (.int v :: st)) : J L n κ X pc lv (a2 :: a1 :: st) := by
  obtain ⟨v, h1, h2⟩ := g_bd hr
  exact j_callS K (As := [a1, a2]) (rv := some (.int v)) (hc v h1) ml hav rfl hd hny hst rfl dg (kk v h1 h2)
theorem j_vI3 (K : jOk n cc own ret d κ) {ex : Option (Int32)} {g : Int32 → Option β} {av : (Nat → Nat) → List Value} {k ci z : Nat} {a1 a2 a3 : Value} (hr : ex.bind g = some r) (hc : ∀ v, ex = some v → Cal L y cy ny ry dy av X ((fun v _ => (none, some (.int v), X)) v)) (ml : MLk own idx y cy ny ry 3) (hcl : ∃ q : vw_C, vwCl[ci]? = some q ∧ q.1 = y.cls) (hs : L.2.1 k = (10 + ci, z)) (hk : k < L.1) (hci : ci < 90) (hav : av (jad κ) = [.ref (jad κ k), a1, a2, a3]) (hd : dy + 1 ≤ d) (hny : ny ≤ 20) (hst : (st.map fun v => v.category).sum ≤ 8) (dg : decode cc pc = .ok (.invokevirtual idx, 3)) (kk : ∀ v, ex = some v → g v = some r → J L n κ X (pc + 3) lv (.int v :: st)) : J L n κ X pc lv (a3 :: a2 :: a1 :: .ref (jad κ k) :: st) := by
  obtain ⟨v, h1, h2⟩ := g_bd hr
  exact j_callV K (As := [a1, a2, a3]) (rv := some (.int v)) (hc v h1) ml hcl hs hk hci hav rfl hd hny hst rfl dg (kk v h1 h2)
theorem j_sI3 (K : jOk n cc own ret d κ) {ex : Option (Int32)} {g : Int32 → Option β} {av : (Nat → Nat) → List Value} {a1 a2 a3 : Value} (hr : ex.bind g = some r) (hc : ∀ v, ex = some v → Cal L y cy ny ry dy av X ((fun v _ => (none, some (.int v), X)) v)) (ml : MSk own idx y cy ny ry 3) (hav : av (jad κ) = [a1, a2, a3]) (hd : dy + 1 ≤ d) (hny : ny ≤ 20) (hst : (st.map fun v => v.category).sum ≤ 8) (dg : decode cc pc = .ok (.invokestatic idx, 3)) (kk : ∀ v, ex = some v → g v = some r → J L n κ X (pc + 3) lv (.int v :: st)) : J L n κ X pc lv (a3 :: a2 :: a1 :: st) := by
  obtain ⟨v, h1, h2⟩ := g_bd hr
  exact j_callS K (As := [a1, a2, a3]) (rv := some (.int v)) (hc v h1) ml hav rfl hd hny hst rfl dg (kk v h1 h2)
theorem j_vI4 (K : jOk n cc own ret d κ) {ex : Option (Int32)} {g : Int32 → Option β} {av : (Nat → Nat) → List Value} {k ci z : Nat} {a1 a2 a3 a4 : Value} (hr : ex.bind g = some r) (hc : ∀ v, ex = some v → Cal L y cy ny ry dy av X ((fun v _ => (none, some (.int v), X)) v)) (ml : MLk own idx y cy ny ry 4) (hcl : ∃ q : vw_C, vwCl[ci]? = some q ∧ q.1 = y.cls) (hs : L.2.1 k = (10 + ci, z)) (hk : k < L.1) (hci : ci < 90) (hav : av (jad κ) = [.ref (jad κ k), a1, a2, a3, a4]) (hd : dy + 1 ≤ d) (hny : ny ≤ 20) (hst : (st.map fun v => v.category).sum ≤ 8) (dg : decode cc pc = .ok (.invokevirtual idx, 3)) (kk : ∀ v, ex = some v → g v = some r → J L n κ X (pc + 3) lv (.int v :: st)) : J L n κ X pc lv (a4 :: a3 :: a2 :: a1 :: .ref (jad κ k) :: st) := by
  obtain ⟨v, h1, h2⟩ := g_bd hr
  exact j_callV K (As := [a1, a2, a3, a4]) (rv := some (.int v)) (hc v h1) ml hcl hs hk hci hav rfl hd hny hst rfl dg (kk v h1 h2)
theorem j_sI4 (K : jOk n cc own ret d κ) {ex : Option (Int32)} {g : Int32 → Option β} {av : (Nat → Nat) → List Value} {a1 a2 a3 a4 : Value} (hr : ex.bind g = some r) (hc : ∀ v, ex = some v → Cal L y cy ny ry dy av X ((fun v _ => (none, some (.int v), X)) v)) (ml : MSk own idx y cy ny ry 4) (hav : av (jad κ) = [a1, a2, a3, a4]) (hd : dy + 1 ≤ d) (hny : ny ≤ 20) (hst : (st.map fun v => v.category).sum ≤ 8) (dg : decode cc pc = .ok (.invokestatic idx, 3)) (kk : ∀ v, ex = some v → g v = some r → J L n κ X (pc + 3) lv (.int v :: st)) : J L n κ X pc lv (a4 :: a3 :: a2 :: a1 :: st) := by
  obtain ⟨v, h1, h2⟩ := g_bd hr
  exact j_callS K (As := [a1, a2, a3, a4]) (rv := some (.int v)) (hc v h1) ml hav rfl hd hny hst rfl dg (kk v h1 h2)
theorem j_vI5 (K : jOk n cc own ret d κ) {ex : Option (Int32)} {g : Int32 → Option β} {av : (Nat → Nat) → List Value} {k ci z : Nat} {a1 a2 a3 a4 a5 : Value} (hr : ex.bind g = some r) (hc : ∀ v, ex = some v → Cal L y cy ny ry dy av X ((fun v _ => (none, some (.int v), X)) v)) (ml : MLk own idx y cy ny ry 5) (hcl : ∃ q : vw_C, vwCl[ci]? = some q ∧ q.1 = y.cls) (hs : L.2.1 k = (10 + ci, z)) (hk : k < L.1) (hci : ci < 90) (hav : av (jad κ) = [.ref (jad κ k), a1, a2, a3, a4, a5]) (hd : dy + 1 ≤ d) (hny : ny ≤ 20) (hst : (st.map fun v => v.category).sum ≤ 8) (dg : decode cc pc = .ok (.invokevirtual idx, 3)) (kk : ∀ v, ex = some v → g v = some r → J L n κ X (pc + 3) lv (.int v :: st)) : J L n κ X pc lv (a5 :: a4 :: a3 :: a2 :: a1 :: .ref (jad κ k) :: st) := by
  obtain ⟨v, h1, h2⟩ := g_bd hr
  exact j_callV K (As := [a1, a2, a3, a4, a5]) (rv := some (.int v)) (hc v h1) ml hcl hs hk hci hav rfl hd hny hst rfl dg (kk v h1 h2)
theorem j_sI5 (K : jOk n cc own ret d κ) {ex : Option (Int32)} {g : Int32 → Option β} {av : (Nat → Nat) → List Value} {a1 a2 a3 a4 a5 : Value} (hr : ex.bind g = some r) (hc : ∀ v, ex = some v → Cal L y cy ny ry dy av X ((fun v _ => (none, some (.int v), X)) v)) (ml : MSk own idx y cy ny ry 5) (hav : av (jad κ) = [a1, a2, a3, a4, a5]) (hd : dy + 1 ≤ d) (hny : ny ≤ 20) (hst : (st.map fun v => v.category).sum ≤ 8) (dg : decode cc pc = .ok (.invokestatic idx, 3)) (kk : ∀ v, ex = some v → g v = some r → J L n κ X (pc + 3) lv (.int v :: st)) : J L n κ X pc lv (a5 :: a4 :: a3 :: a2 :: a1 :: st) := by
  obtain ⟨v, h1, h2⟩ := g_bd hr
  exact j_callS K (As := [a1, a2, a3, a4, a5]) (rv := some (.int v)) (hc v h1) ml hav rfl hd hny hst rfl dg (kk v h1 h2)
theorem j_vM0 (K : jOk n cc own ret d κ) {ex : Option (Int32 × JX)} {g : Int32 × JX → Option β} {av : (Nat → Nat) → List Value} {k ci z : Nat} (hr : ex.bind g = some r) (hc : ∀ v, ex = some v → Cal L y cy ny ry dy av X ((fun v _ => (none, some (.int v.1), v.2)) v)) (ml : MLk own idx y cy ny ry 0) (hcl : ∃ q : vw_C, vwCl[ci]? = some q ∧ q.1 = y.cls) (hs : L.2.1 k = (10 + ci, z)) (hk : k < L.1) (hci : ci < 90) (hav : av (jad κ) = [.ref (jad κ k)]) (hd : dy + 1 ≤ d) (hny : ny ≤ 20) (hst : (st.map fun v => v.category).sum ≤ 8) (dg : decode cc pc = .ok (.invokevirtual idx, 3)) (kk : ∀ v, ex = some v → g v = some r → J L n κ (v.2) (pc + 3) lv (.int v.1 :: st)) : J L n κ X pc lv (.ref (jad κ k) :: st) := by
  obtain ⟨v, h1, h2⟩ := g_bd hr
  exact j_callV K (As := []) (rv := some (.int v.1)) (hc v h1) ml hcl hs hk hci hav rfl hd hny hst rfl dg (kk v h1 h2)
theorem j_vM1 (K : jOk n cc own ret d κ) {ex : Option (Int32 × JX)} {g : Int32 × JX → Option β} {av : (Nat → Nat) → List Value} {k ci z : Nat} {a1 : Value} (hr : ex.bind g = some r) (hc : ∀ v, ex = some v → Cal L y cy ny ry dy av X ((fun v _ => (none, some (.int v.1), v.2)) v)) (ml : MLk own idx y cy ny ry 1) (hcl : ∃ q : vw_C, vwCl[ci]? = some q ∧ q.1 = y.cls) (hs : L.2.1 k = (10 + ci, z)) (hk : k < L.1) (hci : ci < 90) (hav : av (jad κ) = [.ref (jad κ k), a1]) (hd : dy + 1 ≤ d) (hny : ny ≤ 20) (hst : (st.map fun v => v.category).sum ≤ 8) (dg : decode cc pc = .ok (.invokevirtual idx, 3)) (kk : ∀ v, ex = some v → g v = some r → J L n κ (v.2) (pc + 3) lv (.int v.1 :: st)) : J L n κ X pc lv (a1 :: .ref (jad κ k) :: st) := by
  obtain ⟨v, h1, h2⟩ := g_bd hr
  exact j_callV K (As := [a1]) (rv := some (.int v.1)) (hc v h1) ml hcl hs hk hci hav rfl hd hny hst rfl dg (kk v h1 h2)
theorem j_vM2 (K : jOk n cc own ret d κ) {ex : Option (Int32 × JX)} {g : Int32 × JX → Option β} {av : (Nat → Nat) → List Value} {k ci z : Nat} {a1 a2 : Value} (hr : ex.bind g = some r) (hc : ∀ v, ex = some v → Cal L y cy ny ry dy av X ((fun v _ => (none, some (.int v.1), v.2)) v)) (ml : MLk own idx y cy ny ry 2) (hcl : ∃ q : vw_C, vwCl[ci]? = some q ∧ q.1 = y.cls) (hs : L.2.1 k = (10 + ci, z)) (hk : k < L.1) (hci : ci < 90) (hav : av (jad κ) = [.ref (jad κ k), a1, a2]) (hd : dy + 1 ≤ d) (hny : ny ≤ 20) (hst : (st.map fun v => v.category).sum ≤ 8) (dg : decode cc pc = .ok (.invokevirtual idx, 3)) (kk : ∀ v, ex = some v → g v = some r → J L n κ (v.2) (pc + 3) lv (.int v.1 :: st)) : J L n κ X pc lv (a2 :: a1 :: .ref (jad κ k) :: st) := by
  obtain ⟨v, h1, h2⟩ := g_bd hr
  exact j_callV K (As := [a1, a2]) (rv := some (.int v.1)) (hc v h1) ml hcl hs hk hci hav rfl hd hny hst rfl dg (kk v h1 h2)
theorem j_vM3 (K : jOk n cc own ret d κ) {ex : Option (Int32 × JX)} {g : Int32 × JX → Option β} {av : (Nat → Nat) → List Value} {k ci z : Nat} {a1 a2 a3 : Value} (hr : ex.bind g = some r) (hc : ∀ v, ex = some v → Cal L y cy ny ry dy av X ((fun v _ => (none, some (.int v.1), v.2)) v)) (ml : MLk own idx y cy ny ry 3) (hcl : ∃ q : vw_C, vwCl[ci]? = some q ∧ q.1 = y.cls) (hs : L.2.1 k = (10 + ci, z)) (hk : k < L.1) (hci : ci < 90) (hav : av (jad κ) = [.ref (jad κ k), a1, a2, a3]) (hd : dy + 1 ≤ d) (hny : ny ≤ 20) (hst : (st.map fun v => v.category).sum ≤ 8) (dg : decode cc pc = .ok (.invokevirtual idx, 3)) (kk : ∀ v, ex = some v → g v = some r → J L n κ (v.2) (pc + 3) lv (.int v.1 :: st)) : J L n κ X pc lv (a3 :: a2 :: a1 :: .ref (jad κ k) :: st) := by
  obtain ⟨v, h1, h2⟩ := g_bd hr
  exact j_callV K (As := [a1, a2, a3]) (rv := some (.int v.1)) (hc v h1) ml hcl hs hk hci hav rfl hd hny hst rfl dg (kk v h1 h2)
theorem j_vM4 (K : jOk n cc own ret d κ) {ex : Option (Int32 × JX)} {g : Int32 × JX → Option β} {av : (Nat → Nat) → List Value} {k ci z : Nat} {a1 a2 a3 a4 : Value} (hr : ex.bind g = some r) (hc : ∀ v, ex = some v → Cal L y cy ny ry dy av X ((fun v _ => (none, some (.int v.1), v.2)) v)) (ml : MLk own idx y cy ny ry 4) (hcl : ∃ q : vw_C, vwCl[ci]? = some q ∧ q.1 = y.cls) (hs : L.2.1 k = (10 + ci, z)) (hk : k < L.1) (hci : ci < 90) (hav : av (jad κ) = [.ref (jad κ k), a1, a2, a3, a4]) (hd : dy + 1 ≤ d) (hny : ny ≤ 20) (hst : (st.map fun v => v.category).sum ≤ 8) (dg : decode cc pc = .ok (.invokevirtual idx, 3)) (kk : ∀ v, ex = some v → g v = some r → J L n κ (v.2) (pc + 3) lv (.int v.1 :: st)) : J L n κ X pc lv (a4 :: a3 :: a2 :: a1 :: .ref (jad κ k) :: st) := by
  obtain ⟨v, h1, h2⟩ := g_bd hr
  exact j_callV K (As := [a1, a2, a3, a4]) (rv := some (.int v.1)) (hc v h1) ml hcl hs hk hci hav rfl hd hny hst rfl dg (kk v h1 h2)
theorem j_vM5 (K : jOk n cc own ret d κ) {ex : Option (Int32 × JX)} {g : Int32 × JX → Option β} {av : (Nat → Nat) → List Value} {k ci z : Nat} {a1 a2 a3 a4 a5 : Value} (hr : ex.bind g = some r) (hc : ∀ v, ex = some v → Cal L y cy ny ry dy av X ((fun v _ => (none, some (.int v.1), v.2)) v)) (ml : MLk own idx y cy ny ry 5) (hcl : ∃ q : vw_C, vwCl[ci]? = some q ∧ q.1 = y.cls) (hs : L.2.1 k = (10 + ci, z)) (hk : k < L.1) (hci : ci < 90) (hav : av (jad κ) = [.ref (jad κ k), a1, a2, a3, a4, a5]) (hd : dy + 1 ≤ d) (hny : ny ≤ 20) (hst : (st.map fun v => v.category).sum ≤ 8) (dg : decode cc pc = .ok (.invokevirtual idx, 3)) (kk : ∀ v, ex = some v → g v = some r → J L n κ (v.2) (pc + 3) lv (.int v.1 :: st)) : J L n κ X pc lv (a5 :: a4 :: a3 :: a2 :: a1 :: .ref (jad κ k) :: st) := by
  obtain ⟨v, h1, h2⟩ := g_bd hr
  exact j_callV K (As := [a1, a2, a3, a4, a5]) (rv := some (.int v.1)) (hc v h1) ml hcl hs hk hci hav rfl hd hny hst rfl dg (kk v h1 h2)
theorem j_vU0 (K : jOk n cc own ret d κ) {ex : Option (JX)} {g : JX → Option β} {av : (Nat → Nat) → List Value} {k ci z : Nat} (hr : ex.bind g = some r) (hc : ∀ v, ex = some v → Cal L y cy ny ry dy av X ((fun v _ => (none, none, v)) v)) (ml : MLk own idx y cy ny ry 0) (hcl : ∃ q : vw_C, vwCl[ci]? = some q ∧ q.1 = y.cls) (hs : L.2.1 k = (10 + ci, z)) (hk : k < L.1) (hci : ci < 90) (hav : av (jad κ) = [.ref (jad κ k)]) (hd : dy + 1 ≤ d) (hny : ny ≤ 20) (hst : (st.map fun v => v.category).sum ≤ 8) (dg : decode cc pc = .ok (.invokevirtual idx, 3)) (kk : ∀ v, ex = some v → g v = some r → J L n κ (v) (pc + 3) lv st) : J L n κ X pc lv (.ref (jad κ k) :: st) := by
  obtain ⟨v, h1, h2⟩ := g_bd hr
  exact j_callV K (As := []) (rv := none) (hc v h1) ml hcl hs hk hci hav rfl hd hny hst rfl dg (kk v h1 h2)
theorem j_vU1 (K : jOk n cc own ret d κ) {ex : Option (JX)} {g : JX → Option β} {av : (Nat → Nat) → List Value} {k ci z : Nat} {a1 : Value} (hr : ex.bind g = some r) (hc : ∀ v, ex = some v → Cal L y cy ny ry dy av X ((fun v _ => (none, none, v)) v)) (ml : MLk own idx y cy ny ry 1) (hcl : ∃ q : vw_C, vwCl[ci]? = some q ∧ q.1 = y.cls) (hs : L.2.1 k = (10 + ci, z)) (hk : k < L.1) (hci : ci < 90) (hav : av (jad κ) = [.ref (jad κ k), a1]) (hd : dy + 1 ≤ d) (hny : ny ≤ 20) (hst : (st.map fun v => v.category).sum ≤ 8) (dg : decode cc pc = .ok (.invokevirtual idx, 3)) (kk : ∀ v, ex = some v → g v = some r → J L n κ (v) (pc + 3) lv st) : J L n κ X pc lv (a1 :: .ref (jad κ k) :: st) := by
  obtain ⟨v, h1, h2⟩ := g_bd hr
  exact j_callV K (As := [a1]) (rv := none) (hc v h1) ml hcl hs hk hci hav rfl hd hny hst rfl dg (kk v h1 h2)
theorem j_sU1 (K : jOk n cc own ret d κ) {ex : Option (JX)} {g : JX → Option β} {av : (Nat → Nat) → List Value} {a1 : Value} (hr : ex.bind g = some r) (hc : ∀ v, ex = some v → Cal L y cy ny ry dy av X ((fun v _ => (none, none, v)) v)) (ml : MSk own idx y cy ny ry 1) (hav : av (jad κ) = [a1]) (hd : dy + 1 ≤ d) (hny : ny ≤ 20) (hst : (st.map fun v => v.category).sum ≤ 8) (dg : decode cc pc = .ok (.invokestatic idx, 3)) (kk : ∀ v, ex = some v → g v = some r → J L n κ v (pc + 3) lv st) : J L n κ X pc lv (a1 :: st) := by
  obtain ⟨v, h1, h2⟩ := g_bd hr
  exact j_callS K (As := [a1]) (rv := none) (hc v h1) ml hav rfl hd hny hst rfl dg (kk v h1 h2)
theorem j_vU2 (K : jOk n cc own ret d κ) {ex : Option (JX)} {g : JX → Option β} {av : (Nat → Nat) → List Value} {k ci z : Nat} {a1 a2 : Value} (hr : ex.bind g = some r) (hc : ∀ v, ex = some v → Cal L y cy ny ry dy av X ((fun v _ => (none, none, v)) v)) (ml : MLk own idx y cy ny ry 2) (hcl : ∃ q : vw_C, vwCl[ci]? = some q ∧ q.1 = y.cls) (hs : L.2.1 k = (10 + ci, z)) (hk : k < L.1) (hci : ci < 90) (hav : av (jad κ) = [.ref (jad κ k), a1, a2]) (hd : dy + 1 ≤ d) (hny : ny ≤ 20) (hst : (st.map fun v => v.category).sum ≤ 8) (dg : decode cc pc = .ok (.invokevirtual idx, 3)) (kk : ∀ v, ex = some v → g v = some r → J L n κ (v) (pc + 3) lv st) : J L n κ X pc lv (a2 :: a1 :: .ref (jad κ k) :: st) := by
  obtain ⟨v, h1, h2⟩ := g_bd hr
  exact j_callV K (As := [a1, a2]) (rv := none) (hc v h1) ml hcl hs hk hci hav rfl hd hny hst rfl dg (kk v h1 h2)
theorem j_sU2 (K : jOk n cc own ret d κ) {ex : Option (JX)} {g : JX → Option β} {av : (Nat → Nat) → List Value} {a1 a2 : Value} (hr : ex.bind g = some r) (hc : ∀ v, ex = some v → Cal L y cy ny ry dy av X ((fun v _ => (none, none, v)) v)) (ml : MSk own idx y cy ny ry 2) (hav : av (jad κ) = [a1, a2]) (hd : dy + 1 ≤ d) (hny : ny ≤ 20) (hst : (st.map fun v => v.category).sum ≤ 8) (dg : decode cc pc = .ok (.invokestatic idx, 3)) (kk : ∀ v, ex = some v → g v = some r → J L n κ v (pc + 3) lv st) : J L n κ X pc lv (a2 :: a1 :: st) := by
  obtain ⟨v, h1, h2⟩ := g_bd hr
  exact j_callS K (As := [a1, a2]) (rv := none) (hc v h1) ml hav rfl hd hny hst rfl dg (kk v h1 h2)
theorem j_vU3 (K : jOk n cc own ret d κ) {ex : Option (JX)} {g : JX → Option β} {av : (Nat → Nat) → List Value} {k ci z : Nat} {a1 a2 a3 : Value} (hr : ex.bind g = some r) (hc : ∀ v, ex = some v → Cal L y cy ny ry dy av X ((fun v _ => (none, none, v)) v)) (ml : MLk own idx y cy ny ry 3) (hcl : ∃ q : vw_C, vwCl[ci]? = some q ∧ q.1 = y.cls) (hs : L.2.1 k = (10 + ci, z)) (hk : k < L.1) (hci : ci < 90) (hav : av (jad κ) = [.ref (jad κ k), a1, a2, a3]) (hd : dy + 1 ≤ d) (hny : ny ≤ 20) (hst : (st.map fun v => v.category).sum ≤ 8) (dg : decode cc pc = .ok (.invokevirtual idx, 3)) (kk : ∀ v, ex = some v → g v = some r → J L n κ (v) (pc + 3) lv st) : J L n κ X pc lv (a3 :: a2 :: a1 :: .ref (jad κ k) :: st) := by
  obtain ⟨v, h1, h2⟩ := g_bd hr
  exact j_callV K (As := [a1, a2, a3]) (rv := none) (hc v h1) ml hcl hs hk hci hav rfl hd hny hst rfl dg (kk v h1 h2)
theorem j_sU3 (K : jOk n cc own ret d κ) {ex : Option (JX)} {g : JX → Option β} {av : (Nat → Nat) → List Value} {a1 a2 a3 : Value} (hr : ex.bind g = some r) (hc : ∀ v, ex = some v → Cal L y cy ny ry dy av X ((fun v _ => (none, none, v)) v)) (ml : MSk own idx y cy ny ry 3) (hav : av (jad κ) = [a1, a2, a3]) (hd : dy + 1 ≤ d) (hny : ny ≤ 20) (hst : (st.map fun v => v.category).sum ≤ 8) (dg : decode cc pc = .ok (.invokestatic idx, 3)) (kk : ∀ v, ex = some v → g v = some r → J L n κ v (pc + 3) lv st) : J L n κ X pc lv (a3 :: a2 :: a1 :: st) := by
  obtain ⟨v, h1, h2⟩ := g_bd hr
  exact j_callS K (As := [a1, a2, a3]) (rv := none) (hc v h1) ml hav rfl hd hny hst rfl dg (kk v h1 h2)
theorem j_vU4 (K : jOk n cc own ret d κ) {ex : Option (JX)} {g : JX → Option β} {av : (Nat → Nat) → List Value} {k ci z : Nat} {a1 a2 a3 a4 : Value} (hr : ex.bind g = some r) (hc : ∀ v, ex = some v → Cal L y cy ny ry dy av X ((fun v _ => (none, none, v)) v)) (ml : MLk own idx y cy ny ry 4) (hcl : ∃ q : vw_C, vwCl[ci]? = some q ∧ q.1 = y.cls) (hs : L.2.1 k = (10 + ci, z)) (hk : k < L.1) (hci : ci < 90) (hav : av (jad κ) = [.ref (jad κ k), a1, a2, a3, a4]) (hd : dy + 1 ≤ d) (hny : ny ≤ 20) (hst : (st.map fun v => v.category).sum ≤ 8) (dg : decode cc pc = .ok (.invokevirtual idx, 3)) (kk : ∀ v, ex = some v → g v = some r → J L n κ (v) (pc + 3) lv st) : J L n κ X pc lv (a4 :: a3 :: a2 :: a1 :: .ref (jad κ k) :: st) := by
  obtain ⟨v, h1, h2⟩ := g_bd hr
  exact j_callV K (As := [a1, a2, a3, a4]) (rv := none) (hc v h1) ml hcl hs hk hci hav rfl hd hny hst rfl dg (kk v h1 h2)
theorem j_sU4 (K : jOk n cc own ret d κ) {ex : Option (JX)} {g : JX → Option β} {av : (Nat → Nat) → List Value} {a1 a2 a3 a4 : Value} (hr : ex.bind g = some r) (hc : ∀ v, ex = some v → Cal L y cy ny ry dy av X ((fun v _ => (none, none, v)) v)) (ml : MSk own idx y cy ny ry 4) (hav : av (jad κ) = [a1, a2, a3, a4]) (hd : dy + 1 ≤ d) (hny : ny ≤ 20) (hst : (st.map fun v => v.category).sum ≤ 8) (dg : decode cc pc = .ok (.invokestatic idx, 3)) (kk : ∀ v, ex = some v → g v = some r → J L n κ v (pc + 3) lv st) : J L n κ X pc lv (a4 :: a3 :: a2 :: a1 :: st) := by
  obtain ⟨v, h1, h2⟩ := g_bd hr
  exact j_callS K (As := [a1, a2, a3, a4]) (rv := none) (hc v h1) ml hav rfl hd hny hst rfl dg (kk v h1 h2)
theorem j_vU5 (K : jOk n cc own ret d κ) {ex : Option (JX)} {g : JX → Option β} {av : (Nat → Nat) → List Value} {k ci z : Nat} {a1 a2 a3 a4 a5 : Value} (hr : ex.bind g = some r) (hc : ∀ v, ex = some v → Cal L y cy ny ry dy av X ((fun v _ => (none, none, v)) v)) (ml : MLk own idx y cy ny ry 5) (hcl : ∃ q : vw_C, vwCl[ci]? = some q ∧ q.1 = y.cls) (hs : L.2.1 k = (10 + ci, z)) (hk : k < L.1) (hci : ci < 90) (hav : av (jad κ) = [.ref (jad κ k), a1, a2, a3, a4, a5]) (hd : dy + 1 ≤ d) (hny : ny ≤ 20) (hst : (st.map fun v => v.category).sum ≤ 8) (dg : decode cc pc = .ok (.invokevirtual idx, 3)) (kk : ∀ v, ex = some v → g v = some r → J L n κ (v) (pc + 3) lv st) : J L n κ X pc lv (a5 :: a4 :: a3 :: a2 :: a1 :: .ref (jad κ k) :: st) := by
  obtain ⟨v, h1, h2⟩ := g_bd hr
  exact j_callV K (As := [a1, a2, a3, a4, a5]) (rv := none) (hc v h1) ml hcl hs hk hci hav rfl hd hny hst rfl dg (kk v h1 h2)
theorem j_sU5 (K : jOk n cc own ret d κ) {ex : Option (JX)} {g : JX → Option β} {av : (Nat → Nat) → List Value} {a1 a2 a3 a4 a5 : Value} (hr : ex.bind g = some r) (hc : ∀ v, ex = some v → Cal L y cy ny ry dy av X ((fun v _ => (none, none, v)) v)) (ml : MSk own idx y cy ny ry 5) (hav : av (jad κ) = [a1, a2, a3, a4, a5]) (hd : dy + 1 ≤ d) (hny : ny ≤ 20) (hst : (st.map fun v => v.category).sum ≤ 8) (dg : decode cc pc = .ok (.invokestatic idx, 3)) (kk : ∀ v, ex = some v → g v = some r → J L n κ v (pc + 3) lv st) : J L n κ X pc lv (a5 :: a4 :: a3 :: a2 :: a1 :: st) := by
  obtain ⟨v, h1, h2⟩ := g_bd hr
  exact j_callS K (As := [a1, a2, a3, a4, a5]) (rv := none) (hc v h1) ml hav rfl hd hny hst rfl dg (kk v h1 h2)
theorem j_vR0 (K : jOk n cc own ret d κ) {ex : Option (Nat)} {g : Nat → Option β} {av : (Nat → Nat) → List Value} {k ci z : Nat} (hr : ex.bind g = some r) (hc : ∀ v, ex = some v → Cal L y cy ny ry dy av X ((fun v ad => (none, some (.ref (ad v)), X)) v)) (ml : MLk own idx y cy ny ry 0) (hcl : ∃ q : vw_C, vwCl[ci]? = some q ∧ q.1 = y.cls) (hs : L.2.1 k = (10 + ci, z)) (hk : k < L.1) (hci : ci < 90) (hav : av (jad κ) = [.ref (jad κ k)]) (hd : dy + 1 ≤ d) (hny : ny ≤ 20) (hst : (st.map fun v => v.category).sum ≤ 8) (dg : decode cc pc = .ok (.invokevirtual idx, 3)) (kk : ∀ v, ex = some v → g v = some r → J L n κ X (pc + 3) lv (.ref (jad κ v) :: st)) : J L n κ X pc lv (.ref (jad κ k) :: st) := by
  obtain ⟨v, h1, h2⟩ := g_bd hr
  exact j_callV K (As := []) (rv := some (.ref (jad κ v))) (hc v h1) ml hcl hs hk hci hav rfl hd hny hst rfl dg (kk v h1 h2)
theorem j_vR1 (K : jOk n cc own ret d κ) {ex : Option (Nat)} {g : Nat → Option β} {av : (Nat → Nat) → List Value} {k ci z : Nat} {a1 : Value} (hr : ex.bind g = some r) (hc : ∀ v, ex = some v → Cal L y cy ny ry dy av X ((fun v ad => (none, some (.ref (ad v)), X)) v)) (ml : MLk own idx y cy ny ry 1) (hcl : ∃ q : vw_C, vwCl[ci]? = some q ∧ q.1 = y.cls) (hs : L.2.1 k = (10 + ci, z)) (hk : k < L.1) (hci : ci < 90) (hav : av (jad κ) = [.ref (jad κ k), a1]) (hd : dy + 1 ≤ d) (hny : ny ≤ 20) (hst : (st.map fun v => v.category).sum ≤ 8) (dg : decode cc pc = .ok (.invokevirtual idx, 3)) (kk : ∀ v, ex = some v → g v = some r → J L n κ X (pc + 3) lv (.ref (jad κ v) :: st)) : J L n κ X pc lv (a1 :: .ref (jad κ k) :: st) := by
  obtain ⟨v, h1, h2⟩ := g_bd hr
  exact j_callV K (As := [a1]) (rv := some (.ref (jad κ v))) (hc v h1) ml hcl hs hk hci hav rfl hd hny hst rfl dg (kk v h1 h2)
theorem j_vR2 (K : jOk n cc own ret d κ) {ex : Option (Nat)} {g : Nat → Option β} {av : (Nat → Nat) → List Value} {k ci z : Nat} {a1 a2 : Value} (hr : ex.bind g = some r) (hc : ∀ v, ex = some v → Cal L y cy ny ry dy av X ((fun v ad => (none, some (.ref (ad v)), X)) v)) (ml : MLk own idx y cy ny ry 2) (hcl : ∃ q : vw_C, vwCl[ci]? = some q ∧ q.1 = y.cls) (hs : L.2.1 k = (10 + ci, z)) (hk : k < L.1) (hci : ci < 90) (hav : av (jad κ) = [.ref (jad κ k), a1, a2]) (hd : dy + 1 ≤ d) (hny : ny ≤ 20) (hst : (st.map fun v => v.category).sum ≤ 8) (dg : decode cc pc = .ok (.invokevirtual idx, 3)) (kk : ∀ v, ex = some v → g v = some r → J L n κ X (pc + 3) lv (.ref (jad κ v) :: st)) : J L n κ X pc lv (a2 :: a1 :: .ref (jad κ k) :: st) := by
  obtain ⟨v, h1, h2⟩ := g_bd hr
  exact j_callV K (As := [a1, a2]) (rv := some (.ref (jad κ v))) (hc v h1) ml hcl hs hk hci hav rfl hd hny hst rfl dg (kk v h1 h2)
theorem j_vR3 (K : jOk n cc own ret d κ) {ex : Option (Nat)} {g : Nat → Option β} {av : (Nat → Nat) → List Value} {k ci z : Nat} {a1 a2 a3 : Value} (hr : ex.bind g = some r) (hc : ∀ v, ex = some v → Cal L y cy ny ry dy av X ((fun v ad => (none, some (.ref (ad v)), X)) v)) (ml : MLk own idx y cy ny ry 3) (hcl : ∃ q : vw_C, vwCl[ci]? = some q ∧ q.1 = y.cls) (hs : L.2.1 k = (10 + ci, z)) (hk : k < L.1) (hci : ci < 90) (hav : av (jad κ) = [.ref (jad κ k), a1, a2, a3]) (hd : dy + 1 ≤ d) (hny : ny ≤ 20) (hst : (st.map fun v => v.category).sum ≤ 8) (dg : decode cc pc = .ok (.invokevirtual idx, 3)) (kk : ∀ v, ex = some v → g v = some r → J L n κ X (pc + 3) lv (.ref (jad κ v) :: st)) : J L n κ X pc lv (a3 :: a2 :: a1 :: .ref (jad κ k) :: st) := by
  obtain ⟨v, h1, h2⟩ := g_bd hr
  exact j_callV K (As := [a1, a2, a3]) (rv := some (.ref (jad κ v))) (hc v h1) ml hcl hs hk hci hav rfl hd hny hst rfl dg (kk v h1 h2)
theorem j_vR4 (K : jOk n cc own ret d κ) {ex : Option (Nat)} {g : Nat → Option β} {av : (Nat → Nat) → List Value} {k ci z : Nat} {a1 a2 a3 a4 : Value} (hr : ex.bind g = some r) (hc : ∀ v, ex = some v → Cal L y cy ny ry dy av X ((fun v ad => (none, some (.ref (ad v)), X)) v)) (ml : MLk own idx y cy ny ry 4) (hcl : ∃ q : vw_C, vwCl[ci]? = some q ∧ q.1 = y.cls) (hs : L.2.1 k = (10 + ci, z)) (hk : k < L.1) (hci : ci < 90) (hav : av (jad κ) = [.ref (jad κ k), a1, a2, a3, a4]) (hd : dy + 1 ≤ d) (hny : ny ≤ 20) (hst : (st.map fun v => v.category).sum ≤ 8) (dg : decode cc pc = .ok (.invokevirtual idx, 3)) (kk : ∀ v, ex = some v → g v = some r → J L n κ X (pc + 3) lv (.ref (jad κ v) :: st)) : J L n κ X pc lv (a4 :: a3 :: a2 :: a1 :: .ref (jad κ k) :: st) := by
  obtain ⟨v, h1, h2⟩ := g_bd hr
  exact j_callV K (As := [a1, a2, a3, a4]) (rv := some (.ref (jad κ v))) (hc v h1) ml hcl hs hk hci hav rfl hd hny hst rfl dg (kk v h1 h2)
theorem j_vR5 (K : jOk n cc own ret d κ) {ex : Option (Nat)} {g : Nat → Option β} {av : (Nat → Nat) → List Value} {k ci z : Nat} {a1 a2 a3 a4 a5 : Value} (hr : ex.bind g = some r) (hc : ∀ v, ex = some v → Cal L y cy ny ry dy av X ((fun v ad => (none, some (.ref (ad v)), X)) v)) (ml : MLk own idx y cy ny ry 5) (hcl : ∃ q : vw_C, vwCl[ci]? = some q ∧ q.1 = y.cls) (hs : L.2.1 k = (10 + ci, z)) (hk : k < L.1) (hci : ci < 90) (hav : av (jad κ) = [.ref (jad κ k), a1, a2, a3, a4, a5]) (hd : dy + 1 ≤ d) (hny : ny ≤ 20) (hst : (st.map fun v => v.category).sum ≤ 8) (dg : decode cc pc = .ok (.invokevirtual idx, 3)) (kk : ∀ v, ex = some v → g v = some r → J L n κ X (pc + 3) lv (.ref (jad κ v) :: st)) : J L n κ X pc lv (a5 :: a4 :: a3 :: a2 :: a1 :: .ref (jad κ k) :: st) := by
  obtain ⟨v, h1, h2⟩ := g_bd hr
  exact j_callV K (As := [a1, a2, a3, a4, a5]) (rv := some (.ref (jad κ v))) (hc v h1) ml hcl hs hk hci hav rfl hd hny hst rfl dg (kk v h1 h2)
/-- none or a cell: by cases -/
def oC {α : Type} (o : Option Nat) (a : α) (b : Nat → α) : α := match o with
  | none => a
  | some q => b q
theorem j_vO0 (K : jOk n cc own ret d κ) {ex : Option (Option Nat)} {g1 : Option β} {g2 : Nat → Option β} {av : (Nat → Nat) → List Value} {k ci z : Nat} (hr : ex.bind (fun o => oC o g1 g2) = some r) (hc : ∀ v, ex = some v → Cal L y cy ny ry dy av X (fun ad => (none, some (va_rf (v.map ad)), X))) (ml : MLk own idx y cy ny ry 0) (hcl : ∃ q : vw_C, vwCl[ci]? = some q ∧ q.1 = y.cls) (hs : L.2.1 k = (10 + ci, z)) (hk : k < L.1) (hci : ci < 90) (hav : av (jad κ) = [.ref (jad κ k)]) (hd : dy + 1 ≤ d) (hny : ny ≤ 20) (hst : (st.map fun v => v.category).sum ≤ 8) (dg : decode cc pc = .ok (.invokevirtual idx, 3)) (k1 : ex = some none → g1 = some r → J L n κ X (pc + 3) lv (.null :: st)) (k2 : ∀ q, ex = some (some q) → g2 q = some r → J L n κ X (pc + 3) lv (.ref (jad κ q) :: st)) : J L n κ X pc lv (.ref (jad κ k) :: st) := by
  obtain ⟨v, h1, h2⟩ := g_bd hr
  cases v with
  | none => exact j_callV K (As := []) (rv := some .null) (hc none h1) ml hcl hs hk hci hav rfl hd hny hst rfl dg (k1 h1 h2)
  | some q => exact j_callV K (As := []) (rv := some (.ref (jad κ q))) (hc (some q) h1) ml hcl hs hk hci hav rfl hd hny hst rfl dg (k2 q h1 h2)
theorem j_vO1 (K : jOk n cc own ret d κ) {ex : Option (Option Nat)} {g1 : Option β} {g2 : Nat → Option β} {av : (Nat → Nat) → List Value} {k ci z : Nat} {a1 : Value} (hr : ex.bind (fun o => oC o g1 g2) = some r) (hc : ∀ v, ex = some v → Cal L y cy ny ry dy av X (fun ad => (none, some (va_rf (v.map ad)), X))) (ml : MLk own idx y cy ny ry 1) (hcl : ∃ q : vw_C, vwCl[ci]? = some q ∧ q.1 = y.cls) (hs : L.2.1 k = (10 + ci, z)) (hk : k < L.1) (hci : ci < 90) (hav : av (jad κ) = [.ref (jad κ k), a1]) (hd : dy + 1 ≤ d) (hny : ny ≤ 20) (hst : (st.map fun v => v.category).sum ≤ 8) (dg : decode cc pc = .ok (.invokevirtual idx, 3)) (k1 : ex = some none → g1 = some r → J L n κ X (pc + 3) lv (.null :: st)) (k2 : ∀ q, ex = some (some q) → g2 q = some r → J L n κ X (pc + 3) lv (.ref (jad κ q) :: st)) : J L n κ X pc lv (a1 :: .ref (jad κ k) :: st) := by
  obtain ⟨v, h1, h2⟩ := g_bd hr
  cases v with
  | none => exact j_callV K (As := [a1]) (rv := some .null) (hc none h1) ml hcl hs hk hci hav rfl hd hny hst rfl dg (k1 h1 h2)
  | some q => exact j_callV K (As := [a1]) (rv := some (.ref (jad κ q))) (hc (some q) h1) ml hcl hs hk hci hav rfl hd hny hst rfl dg (k2 q h1 h2)
theorem j_vO2 (K : jOk n cc own ret d κ) {ex : Option (Option Nat)} {g1 : Option β} {g2 : Nat → Option β} {av : (Nat → Nat) → List Value} {k ci z : Nat} {a1 a2 : Value} (hr : ex.bind (fun o => oC o g1 g2) = some r) (hc : ∀ v, ex = some v → Cal L y cy ny ry dy av X (fun ad => (none, some (va_rf (v.map ad)), X))) (ml : MLk own idx y cy ny ry 2) (hcl : ∃ q : vw_C, vwCl[ci]? = some q ∧ q.1 = y.cls) (hs : L.2.1 k = (10 + ci, z)) (hk : k < L.1) (hci : ci < 90) (hav : av (jad κ) = [.ref (jad κ k), a1, a2]) (hd : dy + 1 ≤ d) (hny : ny ≤ 20) (hst : (st.map fun v => v.category).sum ≤ 8) (dg : decode cc pc = .ok (.invokevirtual idx, 3)) (k1 : ex = some none → g1 = some r → J L n κ X (pc + 3) lv (.null :: st)) (k2 : ∀ q, ex = some (some q) → g2 q = some r → J L n κ X (pc + 3) lv (.ref (jad κ q) :: st)) : J L n κ X pc lv (a2 :: a1 :: .ref (jad κ k) :: st) := by
  obtain ⟨v, h1, h2⟩ := g_bd hr
  cases v with
  | none => exact j_callV K (As := [a1, a2]) (rv := some .null) (hc none h1) ml hcl hs hk hci hav rfl hd hny hst rfl dg (k1 h1 h2)
  | some q => exact j_callV K (As := [a1, a2]) (rv := some (.ref (jad κ q))) (hc (some q) h1) ml hcl hs hk hci hav rfl hd hny hst rfl dg (k2 q h1 h2)
end JV
end
