section
-- ===== PART A: goes FIRST, ahead of the names: the tables' words, and 'selects' of the private methods out of them =====
/-- a private method of a class that the tables say can be made, by its rows of tables_1 -/
def lw_okq (q : MethodName × Nat) : Prop := (q.1.cls ≠ "java/lang/invoke/MethodHandle" ∧ q.1.cls ≠ "java/lang/invoke/VarHandle") ∧ Cond.instantiable q.1.cls q.2 ∈ tables_1 ∧ Cond.privateMethod q.1 ∈ tables_1 ∧ Cond.instanceMethod q.1 ∈ tables_1
theorem lw_p0 : lw_okq (⟨"Resolverium$Search", "reachable", "(I)I"⟩, 10) := ⟨⟨by decide +kernel, by decide +kernel⟩, List.mem_of_getElem? (i := 282) (by decide +kernel), List.mem_of_getElem? (i := 456) (by decide +kernel), List.mem_of_getElem? (i := 457) (by decide +kernel)⟩
theorem lw_p1 : lw_okq (⟨"Resolverium$Search", "offerAll", "(III)V"⟩, 10) := ⟨⟨by decide +kernel, by decide +kernel⟩, List.mem_of_getElem? (i := 282) (by decide +kernel), List.mem_of_getElem? (i := 491) (by decide +kernel), List.mem_of_getElem? (i := 492) (by decide +kernel)⟩
theorem lw_p2 : lw_okq (⟨"Resolverium$Search", "offer", "(II)V"⟩, 10) := ⟨⟨by decide +kernel, by decide +kernel⟩, List.mem_of_getElem? (i := 282) (by decide +kernel), List.mem_of_getElem? (i := 505) (by decide +kernel), List.mem_of_getElem? (i := 506) (by decide +kernel)⟩
theorem lw_p3 : lw_okq (⟨"Resolverium$Search", "pickNext", "()Z"⟩, 10) := ⟨⟨by decide +kernel, by decide +kernel⟩, List.mem_of_getElem? (i := 282) (by decide +kernel), List.mem_of_getElem? (i := 521) (by decide +kernel), List.mem_of_getElem? (i := 522) (by decide +kernel)⟩
theorem lw_p4 : lw_okq (⟨"Resolverium$Choice", "turnOnBy", "(I)Z"⟩, 3) := ⟨⟨by decide +kernel, by decide +kernel⟩, List.mem_of_getElem? (i := 290) (by decide +kernel), List.mem_of_getElem? (i := 541) (by decide +kernel), List.mem_of_getElem? (i := 542) (by decide +kernel)⟩
theorem lw_p5 : lw_okq (⟨"Resolverium$Choice", "holdsNeeds", "(II)Z"⟩, 3) := ⟨⟨by decide +kernel, by decide +kernel⟩, List.mem_of_getElem? (i := 290) (by decide +kernel), List.mem_of_getElem? (i := 557) (by decide +kernel), List.mem_of_getElem? (i := 558) (by decide +kernel)⟩
theorem lw_p6 : lw_okq (⟨"Resolverium$Choice", "isServed", "(II)Z"⟩, 3) := ⟨⟨by decide +kernel, by decide +kernel⟩, List.mem_of_getElem? (i := 290) (by decide +kernel), List.mem_of_getElem? (i := 561) (by decide +kernel), List.mem_of_getElem? (i := 562) (by decide +kernel)⟩
theorem lw_p7 : lw_okq (⟨"java/lang/Throwable", "fillInStackTrace", "(I)Ljava/lang/Throwable;"⟩, 6) := ⟨⟨by decide +kernel, by decide +kernel⟩, List.mem_of_getElem? (i := 659) (by decide +kernel), List.mem_of_getElem? (i := 657) (by decide +kernel), List.mem_of_getElem? (i := 658) (by decide +kernel)⟩
theorem lw_p8 : lw_okq (⟨"Resolverium$Ranges", "reaches", "(II)Z"⟩, 8) := ⟨⟨by decide +kernel, by decide +kernel⟩, List.mem_of_getElem? (i := 106) (by decide +kernel), List.mem_of_getElem? (i := 746) (by decide +kernel), List.mem_of_getElem? (i := 747) (by decide +kernel)⟩
theorem lw_p9 : lw_okq (⟨"Resolverium", "isVersion", "(I)Z"⟩, 5) := ⟨⟨by decide +kernel, by decide +kernel⟩, List.mem_of_getElem? (i := 23) (by decide +kernel), List.mem_of_getElem? (i := 764) (by decide +kernel), List.mem_of_getElem? (i := 765) (by decide +kernel)⟩
theorem lw_p10 : lw_okq (⟨"Resolverium", "isRange", "(I)Z"⟩, 5) := ⟨⟨by decide +kernel, by decide +kernel⟩, List.mem_of_getElem? (i := 23) (by decide +kernel), List.mem_of_getElem? (i := 844) (by decide +kernel), List.mem_of_getElem? (i := 845) (by decide +kernel)⟩
theorem lw_p11 : lw_okq (⟨"Resolverium$World", "lastSuccessor", "(I)I"⟩, 11) := ⟨⟨by decide +kernel, by decide +kernel⟩, List.mem_of_getElem? (i := 31) (by decide +kernel), List.mem_of_getElem? (i := 944) (by decide +kernel), List.mem_of_getElem? (i := 945) (by decide +kernel)⟩
theorem lw_p12 : lw_okq (⟨"Resolverium$Census", "pickAll", "(II)Z"⟩, 4) := ⟨⟨by decide +kernel, by decide +kernel⟩, List.mem_of_getElem? (i := 343) (by decide +kernel), List.mem_of_getElem? (i := 989) (by decide +kernel), List.mem_of_getElem? (i := 990) (by decide +kernel)⟩
theorem lw_p13 : lw_okq (⟨"Resolverium$Census", "isBetter", "()Z"⟩, 4) := ⟨⟨by decide +kernel, by decide +kernel⟩, List.mem_of_getElem? (i := 343) (by decide +kernel), List.mem_of_getElem? (i := 996) (by decide +kernel), List.mem_of_getElem? (i := 997) (by decide +kernel)⟩
theorem lw_p14 : lw_okq (⟨"Resolverium$Choice", "meets", "(I)Z"⟩, 3) := ⟨⟨by decide +kernel, by decide +kernel⟩, List.mem_of_getElem? (i := 290) (by decide +kernel), List.mem_of_getElem? (i := 1007) (by decide +kernel), List.mem_of_getElem? (i := 1008) (by decide +kernel)⟩
theorem lw_p15 : lw_okq (⟨"ResolveriumModel", "packageOf", "(I)I"⟩, 32) := ⟨⟨by decide +kernel, by decide +kernel⟩, List.mem_of_getElem? (i := 1080) (by decide +kernel), List.mem_of_getElem? (i := 1198) (by decide +kernel), List.mem_of_getElem? (i := 1199) (by decide +kernel)⟩
def lw_privs_1 : List (MethodName × Nat) := [(⟨"Resolverium$Search", "reachable", "(I)I"⟩, 10), (⟨"Resolverium$Search", "offerAll", "(III)V"⟩, 10), (⟨"Resolverium$Search", "offer", "(II)V"⟩, 10), (⟨"Resolverium$Search", "pickNext", "()Z"⟩, 10), (⟨"Resolverium$Choice", "turnOnBy", "(I)Z"⟩, 3), (⟨"Resolverium$Choice", "holdsNeeds", "(II)Z"⟩, 3), (⟨"Resolverium$Choice", "isServed", "(II)Z"⟩, 3), (⟨"java/lang/Throwable", "fillInStackTrace", "(I)Ljava/lang/Throwable;"⟩, 6), (⟨"Resolverium$Ranges", "reaches", "(II)Z"⟩, 8), (⟨"Resolverium", "isVersion", "(I)Z"⟩, 5), (⟨"Resolverium", "isRange", "(I)Z"⟩, 5), (⟨"Resolverium$World", "lastSuccessor", "(I)I"⟩, 11), (⟨"Resolverium$Census", "pickAll", "(II)Z"⟩, 4), (⟨"Resolverium$Census", "isBetter", "()Z"⟩, 4), (⟨"Resolverium$Choice", "meets", "(I)Z"⟩, 3), (⟨"ResolveriumModel", "packageOf", "(I)I"⟩, 32)]
theorem lw_r1 : ∀ q ∈ lw_privs_1, lw_okq q := List.forall_mem_cons.mpr ⟨lw_p0, List.forall_mem_cons.mpr ⟨lw_p1, List.forall_mem_cons.mpr ⟨lw_p2, List.forall_mem_cons.mpr ⟨lw_p3, List.forall_mem_cons.mpr ⟨lw_p4, List.forall_mem_cons.mpr ⟨lw_p5, List.forall_mem_cons.mpr ⟨lw_p6, List.forall_mem_cons.mpr ⟨lw_p7, List.forall_mem_cons.mpr ⟨lw_p8, List.forall_mem_cons.mpr ⟨lw_p9, List.forall_mem_cons.mpr ⟨lw_p10, List.forall_mem_cons.mpr ⟨lw_p11, List.forall_mem_cons.mpr ⟨lw_p12, List.forall_mem_cons.mpr ⟨lw_p13, List.forall_mem_cons.mpr ⟨lw_p14, List.forall_mem_cons.mpr ⟨lw_p15, fun _ h => absurd h List.not_mem_nil⟩⟩⟩⟩⟩⟩⟩⟩⟩⟩⟩⟩⟩⟩⟩⟩
theorem lw_p16 : lw_okq (⟨"ResolveriumModel", "compareTo", "(IIIII)I"⟩, 32) := ⟨⟨by decide +kernel, by decide +kernel⟩, List.mem_of_getElem? (i := 1080) (by decide +kernel), List.mem_of_getElem? (i := 1202) (by decide +kernel), List.mem_of_getElem? (i := 1203) (by decide +kernel)⟩
theorem lw_p17 : lw_okq (⟨"ResolveriumModel", "goesWell", "(I)Z"⟩, 32) := ⟨⟨by decide +kernel, by decide +kernel⟩, List.mem_of_getElem? (i := 1080) (by decide +kernel), List.mem_of_getElem? (i := 1206) (by decide +kernel), List.mem_of_getElem? (i := 1207) (by decide +kernel)⟩
theorem lw_p18 : lw_okq (⟨"ResolveriumModel", "isIn", "(II)Z"⟩, 32) := ⟨⟨by decide +kernel, by decide +kernel⟩, List.mem_of_getElem? (i := 1080) (by decide +kernel), List.mem_of_getElem? (i := 1210) (by decide +kernel), List.mem_of_getElem? (i := 1211) (by decide +kernel)⟩
theorem lw_p19 : lw_okq (⟨"ResolveriumModel", "isVersion", "(I)Z"⟩, 32) := ⟨⟨by decide +kernel, by decide +kernel⟩, List.mem_of_getElem? (i := 1080) (by decide +kernel), List.mem_of_getElem? (i := 1218) (by decide +kernel), List.mem_of_getElem? (i := 1219) (by decide +kernel)⟩
theorem lw_p20 : lw_okq (⟨"ResolveriumModel", "compared", "(II)I"⟩, 32) := ⟨⟨by decide +kernel, by decide +kernel⟩, List.mem_of_getElem? (i := 1080) (by decide +kernel), List.mem_of_getElem? (i := 1222) (by decide +kernel), List.mem_of_getElem? (i := 1223) (by decide +kernel)⟩
theorem lw_p21 : lw_okq (⟨"ResolveriumModel", "addRange", "(IIIII)I"⟩, 32) := ⟨⟨by decide +kernel, by decide +kernel⟩, List.mem_of_getElem? (i := 1080) (by decide +kernel), List.mem_of_getElem? (i := 1242) (by decide +kernel), List.mem_of_getElem? (i := 1243) (by decide +kernel)⟩
theorem lw_p22 : lw_okq (⟨"ResolveriumModel", "fill", "(I)V"⟩, 32) := ⟨⟨by decide +kernel, by decide +kernel⟩, List.mem_of_getElem? (i := 1080) (by decide +kernel), List.mem_of_getElem? (i := 1246) (by decide +kernel), List.mem_of_getElem? (i := 1247) (by decide +kernel)⟩
theorem lw_p23 : lw_okq (⟨"ResolveriumModel", "isRange", "(I)Z"⟩, 32) := ⟨⟨by decide +kernel, by decide +kernel⟩, List.mem_of_getElem? (i := 1080) (by decide +kernel), List.mem_of_getElem? (i := 1254) (by decide +kernel), List.mem_of_getElem? (i := 1255) (by decide +kernel)⟩
theorem lw_p24 : lw_okq (⟨"ResolveriumModel", "hinders", "(I)I"⟩, 32) := ⟨⟨by decide +kernel, by decide +kernel⟩, List.mem_of_getElem? (i := 1080) (by decide +kernel), List.mem_of_getElem? (i := 1278) (by decide +kernel), List.mem_of_getElem? (i := 1279) (by decide +kernel)⟩
theorem lw_p25 : lw_okq (⟨"ResolveriumModel", "find", "()V"⟩, 32) := ⟨⟨by decide +kernel, by decide +kernel⟩, List.mem_of_getElem? (i := 1080) (by decide +kernel), List.mem_of_getElem? (i := 1294) (by decide +kernel), List.mem_of_getElem? (i := 1295) (by decide +kernel)⟩
theorem lw_p26 : lw_okq (⟨"ResolveriumModel", "demandsOf", "(I)I"⟩, 32) := ⟨⟨by decide +kernel, by decide +kernel⟩, List.mem_of_getElem? (i := 1080) (by decide +kernel), List.mem_of_getElem? (i := 1298) (by decide +kernel), List.mem_of_getElem? (i := 1299) (by decide +kernel)⟩
theorem lw_p27 : lw_okq (⟨"ResolveriumModel", "begin", "()V"⟩, 32) := ⟨⟨by decide +kernel, by decide +kernel⟩, List.mem_of_getElem? (i := 1080) (by decide +kernel), List.mem_of_getElem? (i := 1302) (by decide +kernel), List.mem_of_getElem? (i := 1303) (by decide +kernel)⟩
theorem lw_p28 : lw_okq (⟨"ResolveriumModel", "reached", "()I"⟩, 32) := ⟨⟨by decide +kernel, by decide +kernel⟩, List.mem_of_getElem? (i := 1080) (by decide +kernel), List.mem_of_getElem? (i := 1306) (by decide +kernel), List.mem_of_getElem? (i := 1307) (by decide +kernel)⟩
theorem lw_p29 : lw_okq (⟨"ResolveriumModel", "standsFor", "(I)I"⟩, 32) := ⟨⟨by decide +kernel, by decide +kernel⟩, List.mem_of_getElem? (i := 1080) (by decide +kernel), List.mem_of_getElem? (i := 1310) (by decide +kernel), List.mem_of_getElem? (i := 1311) (by decide +kernel)⟩
theorem lw_p30 : lw_okq (⟨"ResolveriumModel", "isDemanded", "(II)Z"⟩, 32) := ⟨⟨by decide +kernel, by decide +kernel⟩, List.mem_of_getElem? (i := 1080) (by decide +kernel), List.mem_of_getElem? (i := 1314) (by decide +kernel), List.mem_of_getElem? (i := 1315) (by decide +kernel)⟩
theorem lw_p31 : lw_okq (⟨"ResolveriumModel", "goOn", "(Z)Z"⟩, 32) := ⟨⟨by decide +kernel, by decide +kernel⟩, List.mem_of_getElem? (i := 1080) (by decide +kernel), List.mem_of_getElem? (i := 1318) (by decide +kernel), List.mem_of_getElem? (i := 1319) (by decide +kernel)⟩
def lw_privs_2 : List (MethodName × Nat) := [(⟨"ResolveriumModel", "compareTo", "(IIIII)I"⟩, 32), (⟨"ResolveriumModel", "goesWell", "(I)Z"⟩, 32), (⟨"ResolveriumModel", "isIn", "(II)Z"⟩, 32), (⟨"ResolveriumModel", "isVersion", "(I)Z"⟩, 32), (⟨"ResolveriumModel", "compared", "(II)I"⟩, 32), (⟨"ResolveriumModel", "addRange", "(IIIII)I"⟩, 32), (⟨"ResolveriumModel", "fill", "(I)V"⟩, 32), (⟨"ResolveriumModel", "isRange", "(I)Z"⟩, 32), (⟨"ResolveriumModel", "hinders", "(I)I"⟩, 32), (⟨"ResolveriumModel", "find", "()V"⟩, 32), (⟨"ResolveriumModel", "demandsOf", "(I)I"⟩, 32), (⟨"ResolveriumModel", "begin", "()V"⟩, 32), (⟨"ResolveriumModel", "reached", "()I"⟩, 32), (⟨"ResolveriumModel", "standsFor", "(I)I"⟩, 32), (⟨"ResolveriumModel", "isDemanded", "(II)Z"⟩, 32), (⟨"ResolveriumModel", "goOn", "(Z)Z"⟩, 32)]
theorem lw_r2 : ∀ q ∈ lw_privs_2, lw_okq q := List.forall_mem_cons.mpr ⟨lw_p16, List.forall_mem_cons.mpr ⟨lw_p17, List.forall_mem_cons.mpr ⟨lw_p18, List.forall_mem_cons.mpr ⟨lw_p19, List.forall_mem_cons.mpr ⟨lw_p20, List.forall_mem_cons.mpr ⟨lw_p21, List.forall_mem_cons.mpr ⟨lw_p22, List.forall_mem_cons.mpr ⟨lw_p23, List.forall_mem_cons.mpr ⟨lw_p24, List.forall_mem_cons.mpr ⟨lw_p25, List.forall_mem_cons.mpr ⟨lw_p26, List.forall_mem_cons.mpr ⟨lw_p27, List.forall_mem_cons.mpr ⟨lw_p28, List.forall_mem_cons.mpr ⟨lw_p29, List.forall_mem_cons.mpr ⟨lw_p30, List.forall_mem_cons.mpr ⟨lw_p31, fun _ h => absurd h List.not_mem_nil⟩⟩⟩⟩⟩⟩⟩⟩⟩⟩⟩⟩⟩⟩⟩⟩
theorem lw_p32 : lw_okq (⟨"ResolveriumModel", "fitsSoFar", "(I)Z"⟩, 32) := ⟨⟨by decide +kernel, by decide +kernel⟩, List.mem_of_getElem? (i := 1080) (by decide +kernel), List.mem_of_getElem? (i := 1322) (by decide +kernel), List.mem_of_getElem? (i := 1323) (by decide +kernel)⟩
theorem lw_p33 : lw_okq (⟨"ResolveriumModel", "isBroken", "(III)Z"⟩, 32) := ⟨⟨by decide +kernel, by decide +kernel⟩, List.mem_of_getElem? (i := 1080) (by decide +kernel), List.mem_of_getElem? (i := 1326) (by decide +kernel), List.mem_of_getElem? (i := 1327) (by decide +kernel)⟩
theorem lw_p34 : lw_okq (⟨"ResolveriumModel", "isSolution", "()Z"⟩, 32) := ⟨⟨by decide +kernel, by decide +kernel⟩, List.mem_of_getElem? (i := 1080) (by decide +kernel), List.mem_of_getElem? (i := 1330) (by decide +kernel), List.mem_of_getElem? (i := 1331) (by decide +kernel)⟩
theorem lw_p35 : lw_okq (⟨"ResolveriumModel", "areDemandsRight", "()Z"⟩, 32) := ⟨⟨by decide +kernel, by decide +kernel⟩, List.mem_of_getElem? (i := 1080) (by decide +kernel), List.mem_of_getElem? (i := 1334) (by decide +kernel), List.mem_of_getElem? (i := 1335) (by decide +kernel)⟩
theorem lw_p36 : lw_okq (⟨"ResolveriumModel", "spread", "(I)Z"⟩, 32) := ⟨⟨by decide +kernel, by decide +kernel⟩, List.mem_of_getElem? (i := 1080) (by decide +kernel), List.mem_of_getElem? (i := 1338) (by decide +kernel), List.mem_of_getElem? (i := 1339) (by decide +kernel)⟩
theorem lw_p37 : lw_okq (⟨"ResolveriumModel", "counts", "(II)Z"⟩, 32) := ⟨⟨by decide +kernel, by decide +kernel⟩, List.mem_of_getElem? (i := 1080) (by decide +kernel), List.mem_of_getElem? (i := 1342) (by decide +kernel), List.mem_of_getElem? (i := 1343) (by decide +kernel)⟩
theorem lw_p38 : lw_okq (⟨"ResolveriumModel", "areNeedsRight", "(I)Z"⟩, 32) := ⟨⟨by decide +kernel, by decide +kernel⟩, List.mem_of_getElem? (i := 1080) (by decide +kernel), List.mem_of_getElem? (i := 1346) (by decide +kernel), List.mem_of_getElem? (i := 1347) (by decide +kernel)⟩
theorem lw_p39 : lw_okq (⟨"ResolveriumModel", "pull", "(I)Z"⟩, 32) := ⟨⟨by decide +kernel, by decide +kernel⟩, List.mem_of_getElem? (i := 1080) (by decide +kernel), List.mem_of_getElem? (i := 1350) (by decide +kernel), List.mem_of_getElem? (i := 1351) (by decide +kernel)⟩
theorem lw_p40 : lw_okq (⟨"ResolveriumModel", "goesAhead", "()Z"⟩, 32) := ⟨⟨by decide +kernel, by decide +kernel⟩, List.mem_of_getElem? (i := 1080) (by decide +kernel), List.mem_of_getElem? (i := 1354) (by decide +kernel), List.mem_of_getElem? (i := 1355) (by decide +kernel)⟩
theorem lw_p41 : lw_okq (⟨"ResolveriumModel", "changes", "()I"⟩, 32) := ⟨⟨by decide +kernel, by decide +kernel⟩, List.mem_of_getElem? (i := 1080) (by decide +kernel), List.mem_of_getElem? (i := 1358) (by decide +kernel), List.mem_of_getElem? (i := 1359) (by decide +kernel)⟩
theorem lw_p42 : lw_okq (⟨"ResolveriumModel", "isKept", "(I)Z"⟩, 32) := ⟨⟨by decide +kernel, by decide +kernel⟩, List.mem_of_getElem? (i := 1080) (by decide +kernel), List.mem_of_getElem? (i := 1362) (by decide +kernel), List.mem_of_getElem? (i := 1363) (by decide +kernel)⟩
theorem lw_p43 : lw_okq (⟨"ResolveriumModel", "isWished", "(III)Z"⟩, 32) := ⟨⟨by decide +kernel, by decide +kernel⟩, List.mem_of_getElem? (i := 1080) (by decide +kernel), List.mem_of_getElem? (i := 1366) (by decide +kernel), List.mem_of_getElem? (i := 1367) (by decide +kernel)⟩
theorem lw_p44 : lw_okq (⟨"ResolveriumModel", "chosenOf", "(I)I"⟩, 32) := ⟨⟨by decide +kernel, by decide +kernel⟩, List.mem_of_getElem? (i := 1080) (by decide +kernel), List.mem_of_getElem? (i := 1374) (by decide +kernel), List.mem_of_getElem? (i := 1375) (by decide +kernel)⟩
theorem lw_p45 : lw_okq (⟨"ResolveriumModel", "isSolvable", "(II)Z"⟩, 32) := ⟨⟨by decide +kernel, by decide +kernel⟩, List.mem_of_getElem? (i := 1080) (by decide +kernel), List.mem_of_getElem? (i := 1397) (by decide +kernel), List.mem_of_getElem? (i := 1398) (by decide +kernel)⟩
theorem lw_p46 : lw_okq (⟨"ResolveriumModel", "isRightOnDisk", "(I)Z"⟩, 32) := ⟨⟨by decide +kernel, by decide +kernel⟩, List.mem_of_getElem? (i := 1080) (by decide +kernel), List.mem_of_getElem? (i := 1417) (by decide +kernel), List.mem_of_getElem? (i := 1418) (by decide +kernel)⟩
theorem lw_p47 : lw_okq (⟨"ResolveriumModel", "sumOf", "(I)I"⟩, 32) := ⟨⟨by decide +kernel, by decide +kernel⟩, List.mem_of_getElem? (i := 1080) (by decide +kernel), List.mem_of_getElem? (i := 1421) (by decide +kernel), List.mem_of_getElem? (i := 1422) (by decide +kernel)⟩
def lw_privs_3 : List (MethodName × Nat) := [(⟨"ResolveriumModel", "fitsSoFar", "(I)Z"⟩, 32), (⟨"ResolveriumModel", "isBroken", "(III)Z"⟩, 32), (⟨"ResolveriumModel", "isSolution", "()Z"⟩, 32), (⟨"ResolveriumModel", "areDemandsRight", "()Z"⟩, 32), (⟨"ResolveriumModel", "spread", "(I)Z"⟩, 32), (⟨"ResolveriumModel", "counts", "(II)Z"⟩, 32), (⟨"ResolveriumModel", "areNeedsRight", "(I)Z"⟩, 32), (⟨"ResolveriumModel", "pull", "(I)Z"⟩, 32), (⟨"ResolveriumModel", "goesAhead", "()Z"⟩, 32), (⟨"ResolveriumModel", "changes", "()I"⟩, 32), (⟨"ResolveriumModel", "isKept", "(I)Z"⟩, 32), (⟨"ResolveriumModel", "isWished", "(III)Z"⟩, 32), (⟨"ResolveriumModel", "chosenOf", "(I)I"⟩, 32), (⟨"ResolveriumModel", "isSolvable", "(II)Z"⟩, 32), (⟨"ResolveriumModel", "isRightOnDisk", "(I)Z"⟩, 32), (⟨"ResolveriumModel", "sumOf", "(I)I"⟩, 32)]
theorem lw_r3 : ∀ q ∈ lw_privs_3, lw_okq q := List.forall_mem_cons.mpr ⟨lw_p32, List.forall_mem_cons.mpr ⟨lw_p33, List.forall_mem_cons.mpr ⟨lw_p34, List.forall_mem_cons.mpr ⟨lw_p35, List.forall_mem_cons.mpr ⟨lw_p36, List.forall_mem_cons.mpr ⟨lw_p37, List.forall_mem_cons.mpr ⟨lw_p38, List.forall_mem_cons.mpr ⟨lw_p39, List.forall_mem_cons.mpr ⟨lw_p40, List.forall_mem_cons.mpr ⟨lw_p41, List.forall_mem_cons.mpr ⟨lw_p42, List.forall_mem_cons.mpr ⟨lw_p43, List.forall_mem_cons.mpr ⟨lw_p44, List.forall_mem_cons.mpr ⟨lw_p45, List.forall_mem_cons.mpr ⟨lw_p46, List.forall_mem_cons.mpr ⟨lw_p47, fun _ h => absurd h List.not_mem_nil⟩⟩⟩⟩⟩⟩⟩⟩⟩⟩⟩⟩⟩⟩⟩⟩
def lw_privs : List (MethodName × Nat) := lw_privs_1 ++ (lw_privs_2 ++ (lw_privs_3))
def lw_tbl : List Cond := k2_sels lw_privs ++ tables_1
theorem lw_privs_ok : ∀ q ∈ lw_privs, lw_okq q := by
  show ∀ q ∈ lw_privs_1 ++ (lw_privs_2 ++ (lw_privs_3)), lw_okq q
  exact List.forall_mem_append.mpr ⟨lw_r1, List.forall_mem_append.mpr ⟨lw_r2, lw_r3⟩⟩
end
section
def RX0 : String := "Resolverium$Census"
def TX0 : u_T := fun k => match k with
  | 0 => ("Resolverium$Census", "world", "LResolverium$World;", true)
  | 1 => ("Resolverium$Census", "question", "LResolverium$Question;", true)
  | 2 => ("Resolverium$Census", "choice", "LResolverium$Choice;", true)
  | _ => ("Resolverium$Census", "best", "LResolverium$Row;", true)
def tyX0 : Nat → FieldType := fun k => match k with
  | 0 => .object "Resolverium$World"
  | 1 => .object "Resolverium$Question"
  | 2 => .object "Resolverium$Choice"
  | _ => .object "Resolverium$Row"
abbrev wsX00 : List Cond := u_ws RX0 TX0 4
theorem nmX0 : ∀ a, a < 4 → ∀ b, b < 4 → a ≠ b → (TX0 a).2.1 ≠ (TX0 b).2.1 := by decide +kernel
theorem tyX0_ok : ∀ k, k < 4 → parseFieldDescriptor (TX0 k).2.2.1 = some (tyX0 k) := by decide +kernel
abbrev cX0_init : ByteArray := prog_2_method_1_code
def yX0_init : MethodName := ⟨RX0, "<init>", "(LResolverium$World;LResolverium$Question;)V"⟩
abbrev cX0_findBest : ByteArray := prog_2_method_2_code
def yX0_findBest : MethodName := ⟨RX0, "findBest", "()Z"⟩
abbrev cX0_pickAll : ByteArray := prog_2_method_3_code
def yX0_pickAll : MethodName := ⟨RX0, "pickAll", "(II)Z"⟩
abbrev cX0_isBetter : ByteArray := prog_2_method_4_code
def yX0_isBetter : MethodName := ⟨RX0, "isBetter", "()Z"⟩
def RX1 : String := "Resolverium$Choice"
def TX1 : u_T := fun k => match k with
  | 0 => ("Resolverium$Choice", "world", "LResolverium$World;", true)
  | 1 => ("Resolverium$Choice", "picks", "LResolverium$Row;", true)
  | _ => ("Resolverium$Choice", "on", "LResolverium$Row;", true)
def tyX1 : Nat → FieldType := fun k => match k with
  | 0 => .object "Resolverium$World"
  | 1 => .object "Resolverium$Row"
  | _ => .object "Resolverium$Row"
abbrev wsX10 : List Cond := u_ws RX1 TX1 3
theorem nmX1 : ∀ a, a < 3 → ∀ b, b < 3 → a ≠ b → (TX1 a).2.1 ≠ (TX1 b).2.1 := by decide +kernel
theorem tyX1_ok : ∀ k, k < 3 → parseFieldDescriptor (TX1 k).2.2.1 = some (tyX1 k) := by decide +kernel
abbrev cX1_init : ByteArray := prog_3_method_1_code
def yX1_init : MethodName := ⟨RX1, "<init>", "(LResolverium$World;)V"⟩
abbrev cX1_isSolution : ByteArray := prog_3_method_2_code
def yX1_isSolution : MethodName := ⟨RX1, "isSolution", "(I)Z"⟩
abbrev cX1_meets : ByteArray := prog_3_method_3_code
def yX1_meets : MethodName := ⟨RX1, "meets", "(I)Z"⟩
abbrev cX1_standsUpTo : ByteArray := prog_3_method_4_code
def yX1_standsUpTo : MethodName := ⟨RX1, "standsUpTo", "(I)Z"⟩
abbrev cX1_holdsNeeds : ByteArray := prog_3_method_5_code
def yX1_holdsNeeds : MethodName := ⟨RX1, "holdsNeeds", "(II)Z"⟩
abbrev cX1_isServed : ByteArray := prog_3_method_6_code
def yX1_isServed : MethodName := ⟨RX1, "isServed", "(II)Z"⟩
abbrev cX1_turnOn : ByteArray := prog_3_method_7_code
def yX1_turnOn : MethodName := ⟨RX1, "turnOn", "(I)V"⟩
abbrev cX1_turnOnBy : ByteArray := prog_3_method_8_code
def yX1_turnOnBy : MethodName := ⟨RX1, "turnOnBy", "(I)Z"⟩
abbrev cX1_isPulled : ByteArray := prog_3_method_9_code
def yX1_isPulled : MethodName := ⟨RX1, "isPulled", "(I)Z"⟩
def RX2 : String := "Resolverium$Demands"
def TX2 : u_T := fun k => match k with
  | 0 => ("Resolverium$Demands", "workspaces", "LResolverium$Row;", true)
  | 1 => ("Resolverium$Demands", "targets", "LResolverium$Row;", true)
  | 2 => ("Resolverium$Demands", "ranges", "LResolverium$Row;", true)
  | 3 => ("Resolverium$Demands", "asked", "LResolverium$Row;", true)
  | _ => ("Resolverium$Demands", "count", "I", false)
def tyX2 : Nat → FieldType := fun k => match k with
  | 0 => .object "Resolverium$Row"
  | 1 => .object "Resolverium$Row"
  | 2 => .object "Resolverium$Row"
  | 3 => .object "Resolverium$Row"
  | _ => .int
abbrev wsX20 : List Cond := u_ws RX2 TX2 5
theorem nmX2 : ∀ a, a < 5 → ∀ b, b < 5 → a ≠ b → (TX2 a).2.1 ≠ (TX2 b).2.1 := by decide +kernel
theorem tyX2_ok : ∀ k, k < 5 → parseFieldDescriptor (TX2 k).2.2.1 = some (tyX2 k) := by decide +kernel
abbrev cX2_init : ByteArray := prog_4_method_1_code
def yX2_init : MethodName := ⟨RX2, "<init>", "()V"⟩
abbrev cX2_isFull : ByteArray := prog_4_method_2_code
def yX2_isFull : MethodName := ⟨RX2, "isFull", "()Z"⟩
abbrev cX2_add : ByteArray := prog_4_method_3_code
def yX2_add : MethodName := ⟨RX2, "add", "(IIII)I"⟩
abbrev cX2_ofWorkspaces : ByteArray := prog_4_method_4_code
def yX2_ofWorkspaces : MethodName := ⟨RX2, "ofWorkspaces", "(I)I"⟩
def RX3 : String := "Resolverium$Disk"
def TX3 : u_T := fun k => match k with
  | 0 => ("Resolverium$Disk", "versions", "LResolverium$Row;", true)
  | _ => ("Resolverium$Disk", "sums", "LResolverium$Row;", true)
def tyX3 : Nat → FieldType := fun k => match k with
  | 0 => .object "Resolverium$Row"
  | _ => .object "Resolverium$Row"
abbrev wsX30 : List Cond := u_ws RX3 TX3 2
theorem nmX3 : ∀ a, a < 2 → ∀ b, b < 2 → a ≠ b → (TX3 a).2.1 ≠ (TX3 b).2.1 := by decide +kernel
theorem tyX3_ok : ∀ k, k < 2 → parseFieldDescriptor (TX3 k).2.2.1 = some (tyX3 k) := by decide +kernel
abbrev cX3_init : ByteArray := prog_5_method_1_code
def yX3_init : MethodName := ⟨RX3, "<init>", "()V"⟩
abbrev cX3_differs : ByteArray := prog_5_method_2_code
def yX3_differs : MethodName := ⟨RX3, "differs", "(III)Z"⟩
abbrev cX3_put : ByteArray := prog_5_method_3_code
def yX3_put : MethodName := ⟨RX3, "put", "(III)V"⟩
def RX4 : String := "Resolverium$Needs"
def TX4 : u_T := fun k => match k with
  | 0 => ("Resolverium$Needs", "targets", "LResolverium$Row;", true)
  | 1 => ("Resolverium$Needs", "ranges", "LResolverium$Row;", true)
  | 2 => ("Resolverium$Needs", "kinds", "LResolverium$Row;", true)
  | 3 => ("Resolverium$Needs", "triggers", "LResolverium$Row;", true)
  | 4 => ("Resolverium$Needs", "platforms", "LResolverium$Row;", true)
  | 5 => ("Resolverium$Needs", "asked", "LResolverium$Row;", true)
  | _ => ("Resolverium$Needs", "sizes", "LResolverium$Row;", true)
def tyX4 : Nat → FieldType := fun k => match k with
  | 0 => .object "Resolverium$Row"
  | 1 => .object "Resolverium$Row"
  | 2 => .object "Resolverium$Row"
  | 3 => .object "Resolverium$Row"
  | 4 => .object "Resolverium$Row"
  | 5 => .object "Resolverium$Row"
  | _ => .object "Resolverium$Row"
abbrev wsX40 : List Cond := u_ws RX4 TX4 7
theorem nmX4 : ∀ a, a < 7 → ∀ b, b < 7 → a ≠ b → (TX4 a).2.1 ≠ (TX4 b).2.1 := by decide +kernel
theorem tyX4_ok : ∀ k, k < 7 → parseFieldDescriptor (TX4 k).2.2.1 = some (tyX4 k) := by decide +kernel
abbrev cX4_init : ByteArray := prog_6_method_1_code
def yX4_init : MethodName := ⟨RX4, "<init>", "()V"⟩
abbrev cX4_isFull : ByteArray := prog_6_method_2_code
def yX4_isFull : MethodName := ⟨RX4, "isFull", "(I)Z"⟩
abbrev cX4_add : ByteArray := prog_6_method_3_code
def yX4_add : MethodName := ⟨RX4, "add", "(IIIIIII)I"⟩
abbrev cX4_first : ByteArray := prog_6_method_4_code
def yX4_first : MethodName := ⟨RX4, "first", "(I)I"⟩
abbrev cX4_end : ByteArray := prog_6_method_5_code
def yX4_end : MethodName := ⟨RX4, "end", "(I)I"⟩
def RX5 : String := "Resolverium$Question"
def TX5 : u_T := fun k => match k with
  | 0 => ("Resolverium$Question", "world", "LResolverium$World;", true)
  | 1 => ("Resolverium$Question", "workspaces", "I", false)
  | _ => ("Resolverium$Question", "updated", "I", false)
def tyX5 : Nat → FieldType := fun k => match k with
  | 0 => .object "Resolverium$World"
  | 1 => .int
  | _ => .int
abbrev wsX50 : List Cond := u_ws RX5 TX5 3
theorem nmX5 : ∀ a, a < 3 → ∀ b, b < 3 → a ≠ b → (TX5 a).2.1 ≠ (TX5 b).2.1 := by decide +kernel
theorem tyX5_ok : ∀ k, k < 3 → parseFieldDescriptor (TX5 k).2.2.1 = some (tyX5 k) := by decide +kernel
abbrev cX5_init : ByteArray := prog_7_method_1_code
def yX5_init : MethodName := ⟨RX5, "<init>", "(LResolverium$World;)V"⟩
abbrev cX5_demands : ByteArray := prog_7_method_2_code
def yX5_demands : MethodName := ⟨RX5, "demands", "()I"⟩
abbrev cX5_changes : ByteArray := prog_7_method_3_code
def yX5_changes : MethodName := ⟨RX5, "changes", "(LResolverium$Row;I)I"⟩
abbrev cX5_worth : ByteArray := prog_7_method_4_code
def yX5_worth : MethodName := ⟨RX5, "worth", "(II)I"⟩
def RX6 : String := "Resolverium$Ranges"
def TX6 : u_T := fun k => match k with
  | 0 => ("Resolverium$Ranges", "kinds", "LResolverium$Row;", true)
  | 1 => ("Resolverium$Ranges", "froms", "LResolverium$Row;", true)
  | 2 => ("Resolverium$Ranges", "ends", "LResolverium$Row;", true)
  | 3 => ("Resolverium$Ranges", "triplesWithPre", "LResolverium$Row;", true)
  | 4 => ("Resolverium$Ranges", "lefts", "LResolverium$Row;", true)
  | 5 => ("Resolverium$Ranges", "rights", "LResolverium$Row;", true)
  | 6 => ("Resolverium$Ranges", "held", "LResolverium$Row;", true)
  | _ => ("Resolverium$Ranges", "count", "I", false)
def tyX6 : Nat → FieldType := fun k => match k with
  | 0 => .object "Resolverium$Row"
  | 1 => .object "Resolverium$Row"
  | 2 => .object "Resolverium$Row"
  | 3 => .object "Resolverium$Row"
  | 4 => .object "Resolverium$Row"
  | 5 => .object "Resolverium$Row"
  | 6 => .object "Resolverium$Row"
  | _ => .int
abbrev wsX60 : List Cond := u_ws RX6 TX6 8
theorem nmX6 : ∀ a, a < 8 → ∀ b, b < 8 → a ≠ b → (TX6 a).2.1 ≠ (TX6 b).2.1 := by decide +kernel
theorem tyX6_ok : ∀ k, k < 8 → parseFieldDescriptor (TX6 k).2.2.1 = some (tyX6 k) := by decide +kernel
abbrev cX6_init : ByteArray := prog_8_method_1_code
def yX6_init : MethodName := ⟨RX6, "<init>", "()V"⟩
abbrev cX6_isFull : ByteArray := prog_8_method_2_code
def yX6_isFull : MethodName := ⟨RX6, "isFull", "()Z"⟩
abbrev cX6_add : ByteArray := prog_8_method_3_code
def yX6_add : MethodName := ⟨RX6, "add", "(IIILResolverium$Versions;)I"⟩
abbrev cX6_addJoined : ByteArray := prog_8_method_4_code
def yX6_addJoined : MethodName := ⟨RX6, "addJoined", "(III)I"⟩
abbrev cX6_take : ByteArray := prog_8_method_5_code
def yX6_take : MethodName := ⟨RX6, "take", "(II)V"⟩
abbrev cX6_holds : ByteArray := prog_8_method_6_code
def yX6_holds : MethodName := ⟨RX6, "holds", "(II)Z"⟩
abbrev cX6_reaches : ByteArray := prog_8_method_7_code
def yX6_reaches : MethodName := ⟨RX6, "reaches", "(II)Z"⟩
def RX7 : String := "Resolverium$Row"
def TX7 : u_T := fun k => match k with
  | _ => ("Resolverium$Row", "cells", "[I", true)
def tyX7 : Nat → FieldType := fun k => match k with
  | _ => .array .int
abbrev wsX70 : List Cond := u_ws RX7 TX7 1
theorem nmX7 : ∀ a, a < 1 → ∀ b, b < 1 → a ≠ b → (TX7 a).2.1 ≠ (TX7 b).2.1 := by decide +kernel
theorem tyX7_ok : ∀ k, k < 1 → parseFieldDescriptor (TX7 k).2.2.1 = some (tyX7 k) := by decide +kernel
abbrev cX7_init : ByteArray := prog_9_method_1_code
def yX7_init : MethodName := ⟨RX7, "<init>", "(II)V"⟩
abbrev cX7_get : ByteArray := prog_9_method_2_code
def yX7_get : MethodName := ⟨RX7, "get", "(I)I"⟩
abbrev cX7_set : ByteArray := prog_9_method_3_code
def yX7_set : MethodName := ⟨RX7, "set", "(II)V"⟩
abbrev cX7_exchange : ByteArray := prog_9_method_4_code
def yX7_exchange : MethodName := ⟨RX7, "exchange", "(II)I"⟩
abbrev cX7_merge : ByteArray := prog_9_method_5_code
def yX7_merge : MethodName := ⟨RX7, "merge", "(II)Z"⟩
abbrev cX7_fill : ByteArray := prog_9_method_6_code
def yX7_fill : MethodName := ⟨RX7, "fill", "(I)V"⟩
abbrev cX7_copy : ByteArray := prog_9_method_7_code
def yX7_copy : MethodName := ⟨RX7, "copy", "(LResolverium$Row;)V"⟩
abbrev cX7_count : ByteArray := prog_9_method_8_code
def yX7_count : MethodName := ⟨RX7, "count", "(I)I"⟩
def RX8 : String := "Resolverium$Search"
def TX8 : u_T := fun k => match k with
  | 0 => ("Resolverium$Search", "world", "LResolverium$World;", true)
  | 1 => ("Resolverium$Search", "question", "LResolverium$Question;", true)
  | 2 => ("Resolverium$Search", "choice", "LResolverium$Choice;", true)
  | 3 => ("Resolverium$Search", "best", "LResolverium$Row;", true)
  | 4 => ("Resolverium$Search", "offers", "LResolverium$Row;", true)
  | 5 => ("Resolverium$Search", "offered", "LResolverium$Row;", true)
  | 6 => ("Resolverium$Search", "tried", "LResolverium$Row;", true)
  | 7 => ("Resolverium$Search", "demands", "I", false)
  | 8 => ("Resolverium$Search", "mostChanges", "I", false)
  | _ => ("Resolverium$Search", "at", "I", false)
def tyX8 : Nat → FieldType := fun k => match k with
  | 0 => .object "Resolverium$World"
  | 1 => .object "Resolverium$Question"
  | 2 => .object "Resolverium$Choice"
  | 3 => .object "Resolverium$Row"
  | 4 => .object "Resolverium$Row"
  | 5 => .object "Resolverium$Row"
  | 6 => .object "Resolverium$Row"
  | 7 => .int
  | 8 => .int
  | _ => .int
abbrev wsX80 : List Cond := u_ws RX8 TX8 10
theorem nmX8 : ∀ a, a < 10 → ∀ b, b < 10 → a ≠ b → (TX8 a).2.1 ≠ (TX8 b).2.1 := by decide +kernel
theorem tyX8_ok : ∀ k, k < 10 → parseFieldDescriptor (TX8 k).2.2.1 = some (tyX8 k) := by decide +kernel
abbrev cX8_init : ByteArray := prog_10_method_1_code
def yX8_init : MethodName := ⟨RX8, "<init>", "(LResolverium$World;LResolverium$Question;)V"⟩
abbrev cX8_findBest : ByteArray := prog_10_method_2_code
def yX8_findBest : MethodName := ⟨RX8, "findBest", "()Z"⟩
abbrev cX8_bestFeatures : ByteArray := prog_10_method_3_code
def yX8_bestFeatures : MethodName := ⟨RX8, "bestFeatures", "(I)I"⟩
abbrev cX8_isSolvable : ByteArray := prog_10_method_4_code
def yX8_isSolvable : MethodName := ⟨RX8, "isSolvable", "(I)Z"⟩
abbrev cX8_begin : ByteArray := prog_10_method_5_code
def yX8_begin : MethodName := ⟨RX8, "begin", "(II)V"⟩
abbrev cX8_offerAll : ByteArray := prog_10_method_6_code
def yX8_offerAll : MethodName := ⟨RX8, "offerAll", "(III)V"⟩
abbrev cX8_offer : ByteArray := prog_10_method_7_code
def yX8_offer : MethodName := ⟨RX8, "offer", "(II)V"⟩
abbrev cX8_reachable : ByteArray := prog_10_method_8_code
def yX8_reachable : MethodName := ⟨RX8, "reachable", "(I)I"⟩
abbrev cX8_next : ByteArray := prog_10_method_9_code
def yX8_next : MethodName := ⟨RX8, "next", "()Z"⟩
abbrev cX8_pickNext : ByteArray := prog_10_method_10_code
def yX8_pickNext : MethodName := ⟨RX8, "pickNext", "()Z"⟩
def RX9 : String := "Resolverium$Versions"
def TX9 : u_T := fun k => match k with
  | 0 => ("Resolverium$Versions", "owners", "LResolverium$Row;", true)
  | 1 => ("Resolverium$Versions", "ranks", "LResolverium$Row;", true)
  | 2 => ("Resolverium$Versions", "sums", "LResolverium$Row;", true)
  | 3 => ("Resolverium$Versions", "platforms", "LResolverium$Row;", true)
  | 4 => ("Resolverium$Versions", "brought", "LResolverium$Row;", true)
  | 5 => ("Resolverium$Versions", "members", "LResolverium$Row;", true)
  | 6 => ("Resolverium$Versions", "sizes", "LResolverium$Row;", true)
  | 7 => ("Resolverium$Versions", "yanked", "I", false)
  | 8 => ("Resolverium$Versions", "secondary", "I", false)
  | 9 => ("Resolverium$Versions", "packagesAtFirstPlace", "I", false)
  | _ => ("Resolverium$Versions", "count", "I", false)
def tyX9 : Nat → FieldType := fun k => match k with
  | 0 => .object "Resolverium$Row"
  | 1 => .object "Resolverium$Row"
  | 2 => .object "Resolverium$Row"
  | 3 => .object "Resolverium$Row"
  | 4 => .object "Resolverium$Row"
  | 5 => .object "Resolverium$Row"
  | 6 => .object "Resolverium$Row"
  | 7 => .int
  | 8 => .int
  | 9 => .int
  | _ => .int
abbrev wsX90 : List Cond := u_ws RX9 TX9 11
theorem nmX9 : ∀ a, a < 11 → ∀ b, b < 11 → a ≠ b → (TX9 a).2.1 ≠ (TX9 b).2.1 := by decide +kernel
theorem tyX9_ok : ∀ k, k < 11 → parseFieldDescriptor (TX9 k).2.2.1 = some (tyX9 k) := by decide +kernel
abbrev cX9_init : ByteArray := prog_11_method_1_code
def yX9_init : MethodName := ⟨RX9, "<init>", "()V"⟩
abbrev cX9_isFull : ByteArray := prog_11_method_2_code
def yX9_isFull : MethodName := ⟨RX9, "isFull", "(I)Z"⟩
abbrev cX9_hasRank : ByteArray := prog_11_method_3_code
def yX9_hasRank : MethodName := ⟨RX9, "hasRank", "(II)Z"⟩
abbrev cX9_add : ByteArray := prog_11_method_4_code
def yX9_add : MethodName := ⟨RX9, "add", "(IIII)I"⟩
abbrev cX9_member : ByteArray := prog_11_method_5_code
def yX9_member : MethodName := ⟨RX9, "member", "(II)I"⟩
abbrev cX9_toggleYanked : ByteArray := prog_11_method_6_code
def yX9_toggleYanked : MethodName := ⟨RX9, "toggleYanked", "(I)Z"⟩
abbrev cX9_isYanked : ByteArray := prog_11_method_7_code
def yX9_isYanked : MethodName := ⟨RX9, "isYanked", "(I)Z"⟩
abbrev cX9_isHidden : ByteArray := prog_11_method_8_code
def yX9_isHidden : MethodName := ⟨RX9, "isHidden", "(I)Z"⟩
abbrev cX9_broughtBy : ByteArray := prog_11_method_9_code
def yX9_broughtBy : MethodName := ⟨RX9, "broughtBy", "(II)I"⟩
def RX10 : String := "Resolverium$World"
def TX10 : u_T := fun k => match k with
  | 0 => ("Resolverium$World", "versions", "LResolverium$Versions;", true)
  | 1 => ("Resolverium$World", "ranges", "LResolverium$Ranges;", true)
  | 2 => ("Resolverium$World", "needs", "LResolverium$Needs;", true)
  | 3 => ("Resolverium$World", "demands", "LResolverium$Demands;", true)
  | 4 => ("Resolverium$World", "locked", "LResolverium$Row;", true)
  | 5 => ("Resolverium$World", "advisedPackages", "LResolverium$Row;", true)
  | 6 => ("Resolverium$World", "advisedRanges", "LResolverium$Row;", true)
  | 7 => ("Resolverium$World", "successors", "LResolverium$Row;", true)
  | 8 => ("Resolverium$World", "heirs", "LResolverium$Row;", true)
  | 9 => ("Resolverium$World", "advisories", "I", false)
  | _ => ("Resolverium$World", "platform", "I", false)
def tyX10 : Nat → FieldType := fun k => match k with
  | 0 => .object "Resolverium$Versions"
  | 1 => .object "Resolverium$Ranges"
  | 2 => .object "Resolverium$Needs"
  | 3 => .object "Resolverium$Demands"
  | 4 => .object "Resolverium$Row"
  | 5 => .object "Resolverium$Row"
  | 6 => .object "Resolverium$Row"
  | 7 => .object "Resolverium$Row"
  | 8 => .object "Resolverium$Row"
  | 9 => .int
  | _ => .int
abbrev wsX100 : List Cond := u_ws RX10 TX10 11
theorem nmX10 : ∀ a, a < 11 → ∀ b, b < 11 → a ≠ b → (TX10 a).2.1 ≠ (TX10 b).2.1 := by decide +kernel
theorem tyX10_ok : ∀ k, k < 11 → parseFieldDescriptor (TX10 k).2.2.1 = some (tyX10 k) := by decide +kernel
abbrev cX10_init : ByteArray := prog_12_method_1_code
def yX10_init : MethodName := ⟨RX10, "<init>", "()V"⟩
abbrev cX10_warn : ByteArray := prog_12_method_2_code
def yX10_warn : MethodName := ⟨RX10, "warn", "(II)I"⟩
abbrev cX10_flaw : ByteArray := prog_12_method_3_code
def yX10_flaw : MethodName := ⟨RX10, "flaw", "(I)I"⟩
abbrev cX10_usable : ByteArray := prog_12_method_4_code
def yX10_usable : MethodName := ⟨RX10, "usable", "()I"⟩
abbrev cX10_nextUsable : ByteArray := prog_12_method_5_code
def yX10_nextUsable : MethodName := ⟨RX10, "nextUsable", "(I)I"⟩
abbrev cX10_leadsTo : ByteArray := prog_12_method_6_code
def yX10_leadsTo : MethodName := ⟨RX10, "leadsTo", "(II)Z"⟩
abbrev cX10_redirect : ByteArray := prog_12_method_7_code
def yX10_redirect : MethodName := ⟨RX10, "redirect", "(II)I"⟩
abbrev cX10_lastSuccessor : ByteArray := prog_12_method_8_code
def yX10_lastSuccessor : MethodName := ⟨RX10, "lastSuccessor", "(I)I"⟩
abbrev cX10_targetOfDemand : ByteArray := prog_12_method_9_code
def yX10_targetOfDemand : MethodName := ⟨RX10, "targetOfDemand", "(I)I"⟩
abbrev cX10_targetOfNeed : ByteArray := prog_12_method_10_code
def yX10_targetOfNeed : MethodName := ⟨RX10, "targetOfNeed", "(I)I"⟩
abbrev cX10_counts : ByteArray := prog_12_method_11_code
def yX10_counts : MethodName := ⟨RX10, "counts", "(II)Z"⟩
abbrev cX10_pulledBy : ByteArray := prog_12_method_12_code
def yX10_pulledBy : MethodName := ⟨RX10, "pulledBy", "(II)I"⟩
abbrev cX10_refuses : ByteArray := prog_12_method_13_code
def yX10_refuses : MethodName := ⟨RX10, "refuses", "(II)Z"⟩
abbrev cX10_demanded : ByteArray := prog_12_method_14_code
def yX10_demanded : MethodName := ⟨RX10, "demanded", "(I)I"⟩
def RX11 : String := "Resolverium"
def TX11 : u_T := fun k => match k with
  | 0 => ("Resolverium", "world", "LResolverium$World;", true)
  | 1 => ("Resolverium", "question", "LResolverium$Question;", true)
  | 2 => ("Resolverium", "search", "LResolverium$Search;", true)
  | 3 => ("Resolverium", "census", "LResolverium$Census;", true)
  | _ => ("Resolverium", "disk", "LResolverium$Disk;", true)
def tyX11 : Nat → FieldType := fun k => match k with
  | 0 => .object "Resolverium$World"
  | 1 => .object "Resolverium$Question"
  | 2 => .object "Resolverium$Search"
  | 3 => .object "Resolverium$Census"
  | _ => .object "Resolverium$Disk"
abbrev wsX110 : List Cond := u_ws RX11 TX11 5
theorem nmX11 : ∀ a, a < 5 → ∀ b, b < 5 → a ≠ b → (TX11 a).2.1 ≠ (TX11 b).2.1 := by decide +kernel
theorem tyX11_ok : ∀ k, k < 5 → parseFieldDescriptor (TX11 k).2.2.1 = some (tyX11 k) := by decide +kernel
abbrev cX11_init : ByteArray := prog_1_method_1_code
def yX11_init : MethodName := ⟨RX11, "<init>", "()V"⟩
abbrev cX11_publish : ByteArray := prog_1_method_2_code
def yX11_publish : MethodName := ⟨RX11, "publish", "(IIIIII)I"⟩
abbrev cX11_compare : ByteArray := prog_1_method_3_code
def yX11_compare : MethodName := ⟨RX11, "compare", "(II)I"⟩
abbrev cX11_yank : ByteArray := prog_1_method_4_code
def yX11_yank : MethodName := ⟨RX11, "yank", "(I)Z"⟩
abbrev cX11_setPlatforms : ByteArray := prog_1_method_5_code
def yX11_setPlatforms : MethodName := ⟨RX11, "setPlatforms", "(II)I"⟩
abbrev cX11_bring : ByteArray := prog_1_method_6_code
def yX11_bring : MethodName := ⟨RX11, "bring", "(III)Z"⟩
abbrev cX11_range : ByteArray := prog_1_method_7_code
def yX11_range : MethodName := ⟨RX11, "range", "(IIIII)I"⟩
abbrev cX11_join : ByteArray := prog_1_method_8_code
def yX11_join : MethodName := ⟨RX11, "join", "(III)I"⟩
abbrev cX11_has : ByteArray := prog_1_method_9_code
def yX11_has : MethodName := ⟨RX11, "has", "(II)Z"⟩
abbrev cX11_need : ByteArray := prog_1_method_10_code
def yX11_need : MethodName := ⟨RX11, "need", "(IIIIIII)I"⟩
abbrev cX11_demand : ByteArray := prog_1_method_11_code
def yX11_demand : MethodName := ⟨RX11, "demand", "(IIII)I"⟩
abbrev cX11_advise : ByteArray := prog_1_method_12_code
def yX11_advise : MethodName := ⟨RX11, "advise", "(II)I"⟩
abbrev cX11_mending : ByteArray := prog_1_method_13_code
def yX11_mending : MethodName := ⟨RX11, "mending", "(I)I"⟩
abbrev cX11_replace : ByteArray := prog_1_method_14_code
def yX11_replace : MethodName := ⟨RX11, "replace", "(II)I"⟩
abbrev cX11_setPlatform : ByteArray := prog_1_method_15_code
def yX11_setPlatform : MethodName := ⟨RX11, "setPlatform", "(I)I"⟩
abbrev cX11_solve : ByteArray := prog_1_method_16_code
def yX11_solve : MethodName := ⟨RX11, "solve", "(II)I"⟩
abbrev cX11_chosen : ByteArray := prog_1_method_17_code
def yX11_chosen : MethodName := ⟨RX11, "chosen", "(I)I"⟩
abbrev cX11_chosenAnew : ByteArray := prog_1_method_18_code
def yX11_chosenAnew : MethodName := ⟨RX11, "chosenAnew", "(I)I"⟩
abbrev cX11_features : ByteArray := prog_1_method_19_code
def yX11_features : MethodName := ⟨RX11, "features", "(I)I"⟩
abbrev cX11_solutions : ByteArray := prog_1_method_20_code
def yX11_solutions : MethodName := ⟨RX11, "solutions", "()I"⟩
abbrev cX11_why : ByteArray := prog_1_method_21_code
def yX11_why : MethodName := ⟨RX11, "why", "()I"⟩
abbrev cX11_against : ByteArray := prog_1_method_22_code
def yX11_against : MethodName := ⟨RX11, "against", "(I)I"⟩
abbrev cX11_lock : ByteArray := prog_1_method_23_code
def yX11_lock : MethodName := ⟨RX11, "lock", "()I"⟩
abbrev cX11_unlock : ByteArray := prog_1_method_24_code
def yX11_unlock : MethodName := ⟨RX11, "unlock", "(I)I"⟩
abbrev cX11_install : ByteArray := prog_1_method_25_code
def yX11_install : MethodName := ⟨RX11, "install", "(I)I"⟩
abbrev cX11_spoil : ByteArray := prog_1_method_26_code
def yX11_spoil : MethodName := ⟨RX11, "spoil", "(I)I"⟩
abbrev cX11_onDisk : ByteArray := prog_1_method_27_code
def yX11_onDisk : MethodName := ⟨RX11, "onDisk", "(I)I"⟩
abbrev cX11_pending : ByteArray := prog_1_method_28_code
def yX11_pending : MethodName := ⟨RX11, "pending", "()I"⟩
abbrev cX11_isUpTo : ByteArray := prog_1_method_29_code
def yX11_isUpTo : MethodName := ⟨RX11, "isUpTo", "(II)Z"⟩
abbrev cX11_isDigit : ByteArray := prog_1_method_30_code
def yX11_isDigit : MethodName := ⟨RX11, "isDigit", "(I)Z"⟩
abbrev cX11_isPackage : ByteArray := prog_1_method_31_code
def yX11_isPackage : MethodName := ⟨RX11, "isPackage", "(I)Z"⟩
abbrev cX11_isVersion : ByteArray := prog_1_method_32_code
def yX11_isVersion : MethodName := ⟨RX11, "isVersion", "(I)Z"⟩
abbrev cX11_isRange : ByteArray := prog_1_method_33_code
def yX11_isRange : MethodName := ⟨RX11, "isRange", "(I)Z"⟩
abbrev cX11_isIn : ByteArray := prog_1_method_34_code
def yX11_isIn : MethodName := ⟨RX11, "isIn", "(II)Z"⟩
abbrev cX11_rankOf : ByteArray := prog_1_method_35_code
def yX11_rankOf : MethodName := ⟨RX11, "rankOf", "(IIII)I"⟩
abbrev cX11_triple : ByteArray := prog_1_method_36_code
def yX11_triple : MethodName := ⟨RX11, "triple", "(I)I"⟩
abbrev cX11_hasPre : ByteArray := prog_1_method_37_code
def yX11_hasPre : MethodName := ⟨RX11, "hasPre", "(I)Z"⟩
abbrev cX11_hasWholeVersion : ByteArray := prog_1_method_38_code
def yX11_hasWholeVersion : MethodName := ⟨RX11, "hasWholeVersion", "(I)Z"⟩
abbrev cX11_endOf : ByteArray := prog_1_method_39_code
def yX11_endOf : MethodName := ⟨RX11, "endOf", "(IIIII)I"⟩
abbrev cX11_endOfCompatible : ByteArray := prog_1_method_40_code
def yX11_endOfCompatible : MethodName := ⟨RX11, "endOfCompatible", "(III)I"⟩
def RX12 : String := "ResolveriumModel"
def TX12 : u_T := fun k => match k with
  | 0 => ("ResolveriumModel", "thrown", "I", false)
  | 1 => ("ResolveriumModel", "versions", "I", false)
  | 2 => ("ResolveriumModel", "ranges", "I", false)
  | 3 => ("ResolveriumModel", "demands", "I", false)
  | 4 => ("ResolveriumModel", "advices", "I", false)
  | 5 => ("ResolveriumModel", "platform", "I", false)
  | 6 => ("ResolveriumModel", "workspaces", "I", false)
  | 7 => ("ResolveriumModel", "updated", "I", false)
  | 8 => ("ResolveriumModel", "version", "[I", true)
  | 9 => ("ResolveriumModel", "brings", "[I", true)
  | 10 => ("ResolveriumModel", "needs", "[I", true)
  | 11 => ("ResolveriumModel", "range", "[I", true)
  | 12 => ("ResolveriumModel", "has", "[Z", true)
  | 13 => ("ResolveriumModel", "demand", "[I", true)
  | 14 => ("ResolveriumModel", "advice", "[I", true)
  | 15 => ("ResolveriumModel", "replaced", "[I", true)
  | 16 => ("ResolveriumModel", "lock", "[I", true)
  | 17 => ("ResolveriumModel", "disk", "[I", true)
  | 18 => ("ResolveriumModel", "sums", "[I", true)
  | 19 => ("ResolveriumModel", "choice", "[I", true)
  | 20 => ("ResolveriumModel", "on", "[I", true)
  | 21 => ("ResolveriumModel", "pulled", "[Z", true)
  | 22 => ("ResolveriumModel", "candidates", "[I", true)
  | 23 => ("ResolveriumModel", "candidateMany", "[I", true)
  | 24 => ("ResolveriumModel", "at", "[I", true)
  | 25 => ("ResolveriumModel", "counting", "I", false)
  | 26 => ("ResolveriumModel", "must", "I", false)
  | 27 => ("ResolveriumModel", "best", "[I", true)
  | 28 => ("ResolveriumModel", "bestOn", "[I", true)
  | 29 => ("ResolveriumModel", "bestChanges", "I", false)
  | 30 => ("ResolveriumModel", "found", "I", false)
  | _ => ("ResolveriumModel", "isFound", "Z", false)
def tyX12 : Nat → FieldType := fun k => match k with
  | 0 => .int
  | 1 => .int
  | 2 => .int
  | 3 => .int
  | 4 => .int
  | 5 => .int
  | 6 => .int
  | 7 => .int
  | 8 => .array .int
  | 9 => .array .int
  | 10 => .array .int
  | 11 => .array .int
  | 12 => .array .boolean
  | 13 => .array .int
  | 14 => .array .int
  | 15 => .array .int
  | 16 => .array .int
  | 17 => .array .int
  | 18 => .array .int
  | 19 => .array .int
  | 20 => .array .int
  | 21 => .array .boolean
  | 22 => .array .int
  | 23 => .array .int
  | 24 => .array .int
  | 25 => .int
  | 26 => .int
  | 27 => .array .int
  | 28 => .array .int
  | 29 => .int
  | 30 => .int
  | _ => .boolean
abbrev wsX120 : List Cond := u_ws RX12 TX12 32
theorem nmX12 : ∀ a, a < 32 → ∀ b, b < 32 → a ≠ b → (TX12 a).2.1 ≠ (TX12 b).2.1 := by decide +kernel
theorem tyX12_ok : ∀ k, k < 32 → parseFieldDescriptor (TX12 k).2.2.1 = some (tyX12 k) := by decide +kernel
abbrev cX12_init : ByteArray := prog_14_method_1_code
def yX12_init : MethodName := ⟨RX12, "<init>", "()V"⟩
abbrev cX12_thrown : ByteArray := prog_14_method_2_code
def yX12_thrown : MethodName := ⟨RX12, "thrown", "()I"⟩
abbrev cX12_goesWell : ByteArray := prog_14_method_3_code
def yX12_goesWell : MethodName := ⟨RX12, "goesWell", "(I)Z"⟩
abbrev cX12_in : ByteArray := prog_14_method_4_code
def yX12_in : MethodName := ⟨RX12, "in", "(III)Z"⟩
abbrev cX12_isPackage : ByteArray := prog_14_method_5_code
def yX12_isPackage : MethodName := ⟨RX12, "isPackage", "(I)Z"⟩
abbrev cX12_isVersion : ByteArray := prog_14_method_6_code
def yX12_isVersion : MethodName := ⟨RX12, "isVersion", "(I)Z"⟩
abbrev cX12_isRange : ByteArray := prog_14_method_7_code
def yX12_isRange : MethodName := ⟨RX12, "isRange", "(I)Z"⟩
abbrev cX12_packageOf : ByteArray := prog_14_method_8_code
def yX12_packageOf : MethodName := ⟨RX12, "packageOf", "(I)I"⟩
abbrev cX12_compareTo : ByteArray := prog_14_method_9_code
def yX12_compareTo : MethodName := ⟨RX12, "compareTo", "(IIIII)I"⟩
abbrev cX12_compared : ByteArray := prog_14_method_10_code
def yX12_compared : MethodName := ⟨RX12, "compared", "(II)I"⟩
abbrev cX12_isIn : ByteArray := prog_14_method_11_code
def yX12_isIn : MethodName := ⟨RX12, "isIn", "(II)Z"⟩
abbrev cX12_fill : ByteArray := prog_14_method_12_code
def yX12_fill : MethodName := ⟨RX12, "fill", "(I)V"⟩
abbrev cX12_publish : ByteArray := prog_14_method_13_code
def yX12_publish : MethodName := ⟨RX12, "publish", "(IIIIII)I"⟩
abbrev cX12_compare : ByteArray := prog_14_method_14_code
def yX12_compare : MethodName := ⟨RX12, "compare", "(II)I"⟩
abbrev cX12_yank : ByteArray := prog_14_method_15_code
def yX12_yank : MethodName := ⟨RX12, "yank", "(I)Z"⟩
abbrev cX12_setPlatforms : ByteArray := prog_14_method_16_code
def yX12_setPlatforms : MethodName := ⟨RX12, "setPlatforms", "(II)I"⟩
abbrev cX12_bring : ByteArray := prog_14_method_17_code
def yX12_bring : MethodName := ⟨RX12, "bring", "(III)Z"⟩
abbrev cX12_addRange : ByteArray := prog_14_method_18_code
def yX12_addRange : MethodName := ⟨RX12, "addRange", "(IIIII)I"⟩
abbrev cX12_range : ByteArray := prog_14_method_19_code
def yX12_range : MethodName := ⟨RX12, "range", "(IIIII)I"⟩
abbrev cX12_join : ByteArray := prog_14_method_20_code
def yX12_join : MethodName := ⟨RX12, "join", "(III)I"⟩
abbrev cX12_has : ByteArray := prog_14_method_21_code
def yX12_has : MethodName := ⟨RX12, "has", "(II)Z"⟩
abbrev cX12_need : ByteArray := prog_14_method_22_code
def yX12_need : MethodName := ⟨RX12, "need", "(IIIIIII)I"⟩
abbrev cX12_demand : ByteArray := prog_14_method_23_code
def yX12_demand : MethodName := ⟨RX12, "demand", "(IIII)I"⟩
abbrev cX12_advise : ByteArray := prog_14_method_24_code
def yX12_advise : MethodName := ⟨RX12, "advise", "(II)I"⟩
abbrev cX12_hinders : ByteArray := prog_14_method_25_code
def yX12_hinders : MethodName := ⟨RX12, "hinders", "(I)I"⟩
abbrev cX12_mending : ByteArray := prog_14_method_26_code
def yX12_mending : MethodName := ⟨RX12, "mending", "(I)I"⟩
abbrev cX12_standsFor : ByteArray := prog_14_method_27_code
def yX12_standsFor : MethodName := ⟨RX12, "standsFor", "(I)I"⟩
abbrev cX12_replace : ByteArray := prog_14_method_28_code
def yX12_replace : MethodName := ⟨RX12, "replace", "(II)I"⟩
abbrev cX12_setPlatform : ByteArray := prog_14_method_29_code
def yX12_setPlatform : MethodName := ⟨RX12, "setPlatform", "(I)I"⟩
abbrev cX12_demandsOf : ByteArray := prog_14_method_30_code
def yX12_demandsOf : MethodName := ⟨RX12, "demandsOf", "(I)I"⟩
abbrev cX12_isDemanded : ByteArray := prog_14_method_31_code
def yX12_isDemanded : MethodName := ⟨RX12, "isDemanded", "(II)Z"⟩
abbrev cX12_reached : ByteArray := prog_14_method_32_code
def yX12_reached : MethodName := ⟨RX12, "reached", "()I"⟩
abbrev cX12_begin : ByteArray := prog_14_method_33_code
def yX12_begin : MethodName := ⟨RX12, "begin", "()V"⟩
abbrev cX12_isBroken : ByteArray := prog_14_method_34_code
def yX12_isBroken : MethodName := ⟨RX12, "isBroken", "(III)Z"⟩
abbrev cX12_fitsSoFar : ByteArray := prog_14_method_35_code
def yX12_fitsSoFar : MethodName := ⟨RX12, "fitsSoFar", "(I)Z"⟩
abbrev cX12_goOn : ByteArray := prog_14_method_36_code
def yX12_goOn : MethodName := ⟨RX12, "goOn", "(Z)Z"⟩
abbrev cX12_areDemandsRight : ByteArray := prog_14_method_37_code
def yX12_areDemandsRight : MethodName := ⟨RX12, "areDemandsRight", "()Z"⟩
abbrev cX12_counts : ByteArray := prog_14_method_38_code
def yX12_counts : MethodName := ⟨RX12, "counts", "(II)Z"⟩
abbrev cX12_spread : ByteArray := prog_14_method_39_code
def yX12_spread : MethodName := ⟨RX12, "spread", "(I)Z"⟩
abbrev cX12_areNeedsRight : ByteArray := prog_14_method_40_code
def yX12_areNeedsRight : MethodName := ⟨RX12, "areNeedsRight", "(I)Z"⟩
abbrev cX12_pull : ByteArray := prog_14_method_41_code
def yX12_pull : MethodName := ⟨RX12, "pull", "(I)Z"⟩
abbrev cX12_isSolution : ByteArray := prog_14_method_42_code
def yX12_isSolution : MethodName := ⟨RX12, "isSolution", "()Z"⟩
abbrev cX12_isKept : ByteArray := prog_14_method_43_code
def yX12_isKept : MethodName := ⟨RX12, "isKept", "(I)Z"⟩
abbrev cX12_changes : ByteArray := prog_14_method_44_code
def yX12_changes : MethodName := ⟨RX12, "changes", "()I"⟩
abbrev cX12_isWished : ByteArray := prog_14_method_45_code
def yX12_isWished : MethodName := ⟨RX12, "isWished", "(III)Z"⟩
abbrev cX12_goesAhead : ByteArray := prog_14_method_46_code
def yX12_goesAhead : MethodName := ⟨RX12, "goesAhead", "()Z"⟩
abbrev cX12_find : ByteArray := prog_14_method_47_code
def yX12_find : MethodName := ⟨RX12, "find", "()V"⟩
abbrev cX12_isSolvable : ByteArray := prog_14_method_48_code
def yX12_isSolvable : MethodName := ⟨RX12, "isSolvable", "(II)Z"⟩
abbrev cX12_solve : ByteArray := prog_14_method_49_code
def yX12_solve : MethodName := ⟨RX12, "solve", "(II)I"⟩
abbrev cX12_chosenOf : ByteArray := prog_14_method_50_code
def yX12_chosenOf : MethodName := ⟨RX12, "chosenOf", "(I)I"⟩
abbrev cX12_chosen : ByteArray := prog_14_method_51_code
def yX12_chosen : MethodName := ⟨RX12, "chosen", "(I)I"⟩
abbrev cX12_chosenAnew : ByteArray := prog_14_method_52_code
def yX12_chosenAnew : MethodName := ⟨RX12, "chosenAnew", "(I)I"⟩
abbrev cX12_features : ByteArray := prog_14_method_53_code
def yX12_features : MethodName := ⟨RX12, "features", "(I)I"⟩
abbrev cX12_solutions : ByteArray := prog_14_method_54_code
def yX12_solutions : MethodName := ⟨RX12, "solutions", "()I"⟩
abbrev cX12_bits : ByteArray := prog_14_method_55_code
def yX12_bits : MethodName := ⟨RX12, "bits", "(I)I"⟩
abbrev cX12_why : ByteArray := prog_14_method_56_code
def yX12_why : MethodName := ⟨RX12, "why", "()I"⟩
abbrev cX12_against : ByteArray := prog_14_method_57_code
def yX12_against : MethodName := ⟨RX12, "against", "(I)I"⟩
abbrev cX12_lock : ByteArray := prog_14_method_58_code
def yX12_lock : MethodName := ⟨RX12, "lock", "()I"⟩
abbrev cX12_unlock : ByteArray := prog_14_method_59_code
def yX12_unlock : MethodName := ⟨RX12, "unlock", "(I)I"⟩
abbrev cX12_sumOf : ByteArray := prog_14_method_60_code
def yX12_sumOf : MethodName := ⟨RX12, "sumOf", "(I)I"⟩
abbrev cX12_isRightOnDisk : ByteArray := prog_14_method_61_code
def yX12_isRightOnDisk : MethodName := ⟨RX12, "isRightOnDisk", "(I)Z"⟩
abbrev cX12_install : ByteArray := prog_14_method_62_code
def yX12_install : MethodName := ⟨RX12, "install", "(I)I"⟩
abbrev cX12_spoil : ByteArray := prog_14_method_63_code
def yX12_spoil : MethodName := ⟨RX12, "spoil", "(I)I"⟩
abbrev cX12_onDisk : ByteArray := prog_14_method_64_code
def yX12_onDisk : MethodName := ⟨RX12, "onDisk", "(I)I"⟩
abbrev cX12_pending : ByteArray := prog_14_method_65_code
def yX12_pending : MethodName := ⟨RX12, "pending", "()I"⟩
def RJx145de : String := "java/io/Serializable"
def TJx145de : u_T := fun k => match k with
  | _ => ("", "", "", false)
def tyJx145de : Nat → FieldType := fun k => match k with
  | _ => .int
abbrev wsJx145de0 : List Cond := u_ws RJx145de TJx145de 0
theorem nmJx145de : ∀ a, a < 0 → ∀ b, b < 0 → a ≠ b → (TJx145de a).2.1 ≠ (TJx145de b).2.1 := by decide +kernel
theorem tyJx145de_ok : ∀ k, k < 0 → parseFieldDescriptor (TJx145de k).2.2.1 = some (tyJx145de k) := by decide +kernel
def RJ6 : String := "java/lang/Integer"
def TJ6 : u_T := fun k => match k with
  | _ => ("", "", "", false)
def tyJ6 : Nat → FieldType := fun k => match k with
  | _ => .int
abbrev wsJ60 : List Cond := u_ws RJ6 TJ6 0
theorem nmJ6 : ∀ a, a < 0 → ∀ b, b < 0 → a ≠ b → (TJ6 a).2.1 ≠ (TJ6 b).2.1 := by decide +kernel
theorem tyJ6_ok : ∀ k, k < 0 → parseFieldDescriptor (TJ6 k).2.2.1 = some (tyJ6 k) := by decide +kernel
abbrev cJ6_compare_7cf53 : ByteArray := prog_19_method_40_code
def yJ6_compare_7cf53 : MethodName := ⟨RJ6, "compare", "(II)I"⟩
abbrev cJ6_bitCount_0f7a4 : ByteArray := prog_19_method_49_code
def yJ6_bitCount_0f7a4 : MethodName := ⟨RJ6, "bitCount", "(I)I"⟩
def RJ0 : String := "java/lang/String"
def TJ0 : u_T := fun k => match k with
  | _ => ("", "", "", false)
def tyJ0 : Nat → FieldType := fun k => match k with
  | _ => .int
abbrev wsJ00 : List Cond := u_ws RJ0 TJ0 0
theorem nmJ0 : ∀ a, a < 0 → ∀ b, b < 0 → a ≠ b → (TJ0 a).2.1 ≠ (TJ0 b).2.1 := by decide +kernel
theorem tyJ0_ok : ∀ k, k < 0 → parseFieldDescriptor (TJ0 k).2.2.1 = some (tyJ0 k) := by decide +kernel
def RJ7 : String := "java/util/Arrays"
def TJ7 : u_T := fun k => match k with
  | _ => ("", "", "", false)
def tyJ7 : Nat → FieldType := fun k => match k with
  | _ => .int
abbrev wsJ70 : List Cond := u_ws RJ7 TJ7 0
theorem nmJ7 : ∀ a, a < 0 → ∀ b, b < 0 → a ≠ b → (TJ7 a).2.1 ≠ (TJ7 b).2.1 := by decide +kernel
theorem tyJ7_ok : ∀ k, k < 0 → parseFieldDescriptor (TJ7 k).2.2.1 = some (tyJ7 k) := by decide +kernel
abbrev cJ7_fill_53178 : ByteArray := prog_23_method_103_code
def yJ7_fill_53178 : MethodName := ⟨RJ7, "fill", "([II)V"⟩
def RL : String := "ResolveriumLaw"
abbrev cL_publish : ByteArray := method_3_code
def yL_publish : MethodName := ⟨RL, "publish", "(LResolverium;IIIIII[J)I"⟩
abbrev cL_compare : ByteArray := method_4_code
def yL_compare : MethodName := ⟨RL, "compare", "(LResolverium;II[J)I"⟩
abbrev cL_yank : ByteArray := method_5_code
def yL_yank : MethodName := ⟨RL, "yank", "(LResolverium;I[J)I"⟩
abbrev cL_setPlatforms : ByteArray := method_6_code
def yL_setPlatforms : MethodName := ⟨RL, "setPlatforms", "(LResolverium;II[J)I"⟩
abbrev cL_bring : ByteArray := method_7_code
def yL_bring : MethodName := ⟨RL, "bring", "(LResolverium;III[J)I"⟩
abbrev cL_range : ByteArray := method_8_code
def yL_range : MethodName := ⟨RL, "range", "(LResolverium;IIIII[J)I"⟩
abbrev cL_join : ByteArray := method_9_code
def yL_join : MethodName := ⟨RL, "join", "(LResolverium;III[J)I"⟩
abbrev cL_has : ByteArray := method_10_code
def yL_has : MethodName := ⟨RL, "has", "(LResolverium;II[J)I"⟩
abbrev cL_need : ByteArray := method_11_code
def yL_need : MethodName := ⟨RL, "need", "(LResolverium;IIIIIII[J)I"⟩
abbrev cL_demand : ByteArray := method_12_code
def yL_demand : MethodName := ⟨RL, "demand", "(LResolverium;IIII[J)I"⟩
abbrev cL_advise : ByteArray := method_13_code
def yL_advise : MethodName := ⟨RL, "advise", "(LResolverium;II[J)I"⟩
abbrev cL_mending : ByteArray := method_14_code
def yL_mending : MethodName := ⟨RL, "mending", "(LResolverium;I[J)I"⟩
abbrev cL_replace : ByteArray := method_15_code
def yL_replace : MethodName := ⟨RL, "replace", "(LResolverium;II[J)I"⟩
abbrev cL_setPlatform : ByteArray := method_16_code
def yL_setPlatform : MethodName := ⟨RL, "setPlatform", "(LResolverium;I[J)I"⟩
abbrev cL_solve : ByteArray := method_17_code
def yL_solve : MethodName := ⟨RL, "solve", "(LResolverium;II[J)I"⟩
abbrev cL_chosen : ByteArray := method_18_code
def yL_chosen : MethodName := ⟨RL, "chosen", "(LResolverium;I[J)I"⟩
abbrev cL_chosenAnew : ByteArray := method_19_code
def yL_chosenAnew : MethodName := ⟨RL, "chosenAnew", "(LResolverium;I[J)I"⟩
abbrev cL_features : ByteArray := method_20_code
def yL_features : MethodName := ⟨RL, "features", "(LResolverium;I[J)I"⟩
abbrev cL_against : ByteArray := method_21_code
def yL_against : MethodName := ⟨RL, "against", "(LResolverium;I[J)I"⟩
abbrev cL_lock : ByteArray := method_22_code
def yL_lock : MethodName := ⟨RL, "lock", "(LResolverium;[J)I"⟩
abbrev cL_unlock : ByteArray := method_23_code
def yL_unlock : MethodName := ⟨RL, "unlock", "(LResolverium;I[J)I"⟩
abbrev cL_install : ByteArray := method_24_code
def yL_install : MethodName := ⟨RL, "install", "(LResolverium;I[J)I"⟩
abbrev cL_spoil : ByteArray := method_25_code
def yL_spoil : MethodName := ⟨RL, "spoil", "(LResolverium;I[J)I"⟩
abbrev cL_onDisk : ByteArray := method_26_code
def yL_onDisk : MethodName := ⟨RL, "onDisk", "(LResolverium;I[J)I"⟩
abbrev cL_law : ByteArray := code
def yL_law : MethodName := ⟨RL, "law", "([I)Z"⟩
abbrev vwCl : List vw_C := [(RX0, TX0, 4), (RX1, TX1, 3), (RX2, TX2, 5), (RX3, TX3, 2), (RX4, TX4, 7), (RX5, TX5, 3), (RX6, TX6, 8), (RX7, TX7, 1), (RX8, TX8, 10), (RX9, TX9, 11), (RX10, TX10, 11), (RX11, TX11, 5), (RX12, TX12, 32)]
end
section
theorem dX0_init_0 : decode cX0_init 0 = .ok (.aload_n 0, 1) := by decide +kernel
theorem dX0_init_1 : decode cX0_init 1 = .ok (.invokespecial 3, 3) := by decide +kernel
theorem dX0_init_4 : decode cX0_init 4 = .ok (.aload_n 0, 1) := by decide +kernel
theorem dX0_init_5 : decode cX0_init 5 = .ok (.new 9, 3) := by decide +kernel
theorem dX0_init_8 : decode cX0_init 8 = .ok (.dup, 1) := by decide +kernel
theorem dX0_init_9 : decode cX0_init 9 = .ok (.bipush 6, 2) := by decide +kernel
theorem dX0_init_11 : decode cX0_init 11 = .ok (.iconst (-1), 1) := by decide +kernel
theorem dX0_init_12 : decode cX0_init 12 = .ok (.invokespecial 11, 3) := by decide +kernel
theorem dX0_init_15 : decode cX0_init 15 = .ok (.putfield 14, 3) := by decide +kernel
theorem dX0_init_18 : decode cX0_init 18 = .ok (.aload_n 0, 1) := by decide +kernel
theorem dX0_init_19 : decode cX0_init 19 = .ok (.aload_n 1, 1) := by decide +kernel
theorem dX0_init_20 : decode cX0_init 20 = .ok (.putfield 20, 3) := by decide +kernel
theorem dX0_init_23 : decode cX0_init 23 = .ok (.aload_n 0, 1) := by decide +kernel
theorem dX0_init_24 : decode cX0_init 24 = .ok (.aload_n 2, 1) := by decide +kernel
theorem dX0_init_25 : decode cX0_init 25 = .ok (.putfield 24, 3) := by decide +kernel
theorem dX0_init_28 : decode cX0_init 28 = .ok (.aload_n 0, 1) := by decide +kernel
theorem dX0_init_29 : decode cX0_init 29 = .ok (.new 28, 3) := by decide +kernel
theorem dX0_init_32 : decode cX0_init 32 = .ok (.dup, 1) := by decide +kernel
theorem dX0_init_33 : decode cX0_init 33 = .ok (.aload_n 1, 1) := by decide +kernel
theorem dX0_init_34 : decode cX0_init 34 = .ok (.invokespecial 30, 3) := by decide +kernel
theorem dX0_init_37 : decode cX0_init 37 = .ok (.putfield 33, 3) := by decide +kernel
theorem dX0_init_40 : decode cX0_init 40 = .ok (.return_, 1) := by decide +kernel
theorem dX0_findBest_0 : decode cX0_findBest 0 = .ok (.aload_n 0, 1) := by decide +kernel
theorem dX0_findBest_1 : decode cX0_findBest 1 = .ok (.getfield 20, 3) := by decide +kernel
theorem dX0_findBest_4 : decode cX0_findBest 4 = .ok (.invokevirtual 37, 3) := by decide +kernel
theorem dX0_findBest_7 : decode cX0_findBest 7 = .ok (.istore_n 1, 1) := by decide +kernel
theorem dX0_findBest_8 : decode cX0_findBest 8 = .ok (.aload_n 0, 1) := by decide +kernel
theorem dX0_findBest_9 : decode cX0_findBest 9 = .ok (.getfield 24, 3) := by decide +kernel
theorem dX0_findBest_12 : decode cX0_findBest 12 = .ok (.invokevirtual 43, 3) := by decide +kernel
theorem dX0_findBest_15 : decode cX0_findBest 15 = .ok (.istore_n 2, 1) := by decide +kernel
theorem dX0_findBest_16 : decode cX0_findBest 16 = .ok (.aload_n 0, 1) := by decide +kernel
theorem dX0_findBest_17 : decode cX0_findBest 17 = .ok (.getfield 14, 3) := by decide +kernel
theorem dX0_findBest_20 : decode cX0_findBest 20 = .ok (.iconst (-1), 1) := by decide +kernel
theorem dX0_findBest_21 : decode cX0_findBest 21 = .ok (.invokevirtual 48, 3) := by decide +kernel
theorem dX0_findBest_24 : decode cX0_findBest 24 = .ok (.iconst 0, 1) := by decide +kernel
theorem dX0_findBest_25 : decode cX0_findBest 25 = .ok (.istore_n 3, 1) := by decide +kernel
theorem dX0_findBest_26 : decode cX0_findBest 26 = .ok (.iconst 0, 1) := by decide +kernel
theorem dX0_findBest_27 : decode cX0_findBest 27 = .ok (.istore 4, 2) := by decide +kernel
theorem dX0_findBest_29 : decode cX0_findBest 29 = .ok (.iload 4, 2) := by decide +kernel
theorem dX0_findBest_31 : decode cX0_findBest 31 = .ok (.sipush 15625, 3) := by decide +kernel
theorem dX0_findBest_34 : decode cX0_findBest 34 = .ok (.if_icmp .ge 57, 3) := by decide +kernel
theorem dX0_findBest_37 : decode cX0_findBest 37 = .ok (.aload_n 0, 1) := by decide +kernel
theorem dX0_findBest_38 : decode cX0_findBest 38 = .ok (.iload 4, 2) := by decide +kernel
theorem dX0_findBest_40 : decode cX0_findBest 40 = .ok (.iload_n 1, 1) := by decide +kernel
theorem dX0_findBest_41 : decode cX0_findBest 41 = .ok (.invokevirtual 52, 3) := by decide +kernel
theorem dX0_findBest_44 : decode cX0_findBest 44 = .ok (.ifCond .eq 41, 3) := by decide +kernel
theorem dX0_findBest_47 : decode cX0_findBest 47 = .ok (.iload_n 3, 1) := by decide +kernel
theorem dX0_findBest_48 : decode cX0_findBest 48 = .ok (.ifCond .eq 10, 3) := by decide +kernel
theorem dX0_findBest_51 : decode cX0_findBest 51 = .ok (.aload_n 0, 1) := by decide +kernel
theorem dX0_findBest_52 : decode cX0_findBest 52 = .ok (.invokevirtual 56, 3) := by decide +kernel
theorem dX0_findBest_55 : decode cX0_findBest 55 = .ok (.ifCond .eq 30, 3) := by decide +kernel
theorem dX0_findBest_58 : decode cX0_findBest 58 = .ok (.aload_n 0, 1) := by decide +kernel
theorem dX0_findBest_59 : decode cX0_findBest 59 = .ok (.getfield 33, 3) := by decide +kernel
theorem dX0_findBest_62 : decode cX0_findBest 62 = .ok (.iload_n 2, 1) := by decide +kernel
theorem dX0_findBest_63 : decode cX0_findBest 63 = .ok (.invokevirtual 60, 3) := by decide +kernel
theorem dX0_findBest_66 : decode cX0_findBest 66 = .ok (.ifCond .eq 19, 3) := by decide +kernel
theorem dX0_findBest_69 : decode cX0_findBest 69 = .ok (.aload_n 0, 1) := by decide +kernel
theorem dX0_findBest_70 : decode cX0_findBest 70 = .ok (.getfield 14, 3) := by decide +kernel
theorem dX0_findBest_73 : decode cX0_findBest 73 = .ok (.aload_n 0, 1) := by decide +kernel
theorem dX0_findBest_74 : decode cX0_findBest 74 = .ok (.getfield 33, 3) := by decide +kernel
theorem dX0_findBest_77 : decode cX0_findBest 77 = .ok (.getfield 64, 3) := by decide +kernel
theorem dX0_findBest_80 : decode cX0_findBest 80 = .ok (.invokevirtual 67, 3) := by decide +kernel
theorem dX0_findBest_83 : decode cX0_findBest 83 = .ok (.iconst 1, 1) := by decide +kernel
theorem dX0_findBest_84 : decode cX0_findBest 84 = .ok (.istore_n 3, 1) := by decide +kernel
theorem dX0_findBest_85 : decode cX0_findBest 85 = .ok (.iinc 4 1, 3) := by decide +kernel
theorem dX0_findBest_88 : decode cX0_findBest 88 = .ok (.goto (-59), 3) := by decide +kernel
theorem dX0_findBest_91 : decode cX0_findBest 91 = .ok (.iload_n 3, 1) := by decide +kernel
theorem dX0_findBest_92 : decode cX0_findBest 92 = .ok (.ireturn, 1) := by decide +kernel
theorem dX0_pickAll_0 : decode cX0_pickAll 0 = .ok (.iload_n 1, 1) := by decide +kernel
theorem dX0_pickAll_1 : decode cX0_pickAll 1 = .ok (.istore_n 3, 1) := by decide +kernel
theorem dX0_pickAll_2 : decode cX0_pickAll 2 = .ok (.iconst 5, 1) := by decide +kernel
theorem dX0_pickAll_3 : decode cX0_pickAll 3 = .ok (.istore 4, 2) := by decide +kernel
theorem dX0_pickAll_5 : decode cX0_pickAll 5 = .ok (.iload 4, 2) := by decide +kernel
theorem dX0_pickAll_7 : decode cX0_pickAll 7 = .ok (.ifCond .lt 67, 3) := by decide +kernel
theorem dX0_pickAll_10 : decode cX0_pickAll 10 = .ok (.iload_n 3, 1) := by decide +kernel
theorem dX0_pickAll_11 : decode cX0_pickAll 11 = .ok (.iconst 5, 1) := by decide +kernel
theorem dX0_pickAll_12 : decode cX0_pickAll 12 = .ok (.irem, 1) := by decide +kernel
theorem dX0_pickAll_13 : decode cX0_pickAll 13 = .ok (.istore 5, 2) := by decide +kernel
theorem dX0_pickAll_15 : decode cX0_pickAll 15 = .ok (.iload_n 3, 1) := by decide +kernel
theorem dX0_pickAll_16 : decode cX0_pickAll 16 = .ok (.iconst 5, 1) := by decide +kernel
theorem dX0_pickAll_17 : decode cX0_pickAll 17 = .ok (.idiv, 1) := by decide +kernel
theorem dX0_pickAll_18 : decode cX0_pickAll 18 = .ok (.istore_n 3, 1) := by decide +kernel
theorem dX0_pickAll_19 : decode cX0_pickAll 19 = .ok (.aload_n 0, 1) := by decide +kernel
theorem dX0_pickAll_20 : decode cX0_pickAll 20 = .ok (.getfield 20, 3) := by decide +kernel
theorem dX0_pickAll_23 : decode cX0_pickAll 23 = .ok (.getfield 71, 3) := by decide +kernel
theorem dX0_pickAll_26 : decode cX0_pickAll 26 = .ok (.iload 4, 2) := by decide +kernel
theorem dX0_pickAll_28 : decode cX0_pickAll 28 = .ok (.iconst 3, 1) := by decide +kernel
theorem dX0_pickAll_29 : decode cX0_pickAll 29 = .ok (.iload 5, 2) := by decide +kernel
theorem dX0_pickAll_31 : decode cX0_pickAll 31 = .ok (.isub, 1) := by decide +kernel
theorem dX0_pickAll_32 : decode cX0_pickAll 32 = .ok (.invokevirtual 75, 3) := by decide +kernel
theorem dX0_pickAll_35 : decode cX0_pickAll 35 = .ok (.istore 6, 2) := by decide +kernel
theorem dX0_pickAll_37 : decode cX0_pickAll 37 = .ok (.iload 5, 2) := by decide +kernel
theorem dX0_pickAll_39 : decode cX0_pickAll 39 = .ok (.iconst 4, 1) := by decide +kernel
theorem dX0_pickAll_40 : decode cX0_pickAll 40 = .ok (.if_icmp .ge 14, 3) := by decide +kernel
theorem dX0_pickAll_43 : decode cX0_pickAll 43 = .ok (.iload_n 2, 1) := by decide +kernel
theorem dX0_pickAll_44 : decode cX0_pickAll 44 = .ok (.iload 6, 2) := by decide +kernel
theorem dX0_pickAll_46 : decode cX0_pickAll 46 = .ok (.invokestatic 81, 3) := by decide +kernel
theorem dX0_pickAll_49 : decode cX0_pickAll 49 = .ok (.ifCond .ne 5, 3) := by decide +kernel
theorem dX0_pickAll_52 : decode cX0_pickAll 52 = .ok (.iconst 0, 1) := by decide +kernel
theorem dX0_pickAll_53 : decode cX0_pickAll 53 = .ok (.ireturn, 1) := by decide +kernel
theorem dX0_pickAll_54 : decode cX0_pickAll 54 = .ok (.aload_n 0, 1) := by decide +kernel
theorem dX0_pickAll_55 : decode cX0_pickAll 55 = .ok (.getfield 33, 3) := by decide +kernel
theorem dX0_pickAll_58 : decode cX0_pickAll 58 = .ok (.getfield 64, 3) := by decide +kernel
theorem dX0_pickAll_61 : decode cX0_pickAll 61 = .ok (.iload 4, 2) := by decide +kernel
theorem dX0_pickAll_63 : decode cX0_pickAll 63 = .ok (.iload 6, 2) := by decide +kernel
theorem dX0_pickAll_65 : decode cX0_pickAll 65 = .ok (.invokevirtual 84, 3) := by decide +kernel
theorem dX0_pickAll_68 : decode cX0_pickAll 68 = .ok (.iinc 4 (-1), 3) := by decide +kernel
theorem dX0_pickAll_71 : decode cX0_pickAll 71 = .ok (.goto (-66), 3) := by decide +kernel
theorem dX0_pickAll_74 : decode cX0_pickAll 74 = .ok (.iconst 1, 1) := by decide +kernel
theorem dX0_pickAll_75 : decode cX0_pickAll 75 = .ok (.ireturn, 1) := by decide +kernel
theorem dX0_isBetter_0 : decode cX0_isBetter 0 = .ok (.aload_n 0, 1) := by decide +kernel
theorem dX0_isBetter_1 : decode cX0_isBetter 1 = .ok (.getfield 24, 3) := by decide +kernel
theorem dX0_isBetter_4 : decode cX0_isBetter 4 = .ok (.aload_n 0, 1) := by decide +kernel
theorem dX0_isBetter_5 : decode cX0_isBetter 5 = .ok (.getfield 33, 3) := by decide +kernel
theorem dX0_isBetter_8 : decode cX0_isBetter 8 = .ok (.getfield 64, 3) := by decide +kernel
theorem dX0_isBetter_11 : decode cX0_isBetter 11 = .ok (.iconst 5, 1) := by decide +kernel
theorem dX0_isBetter_12 : decode cX0_isBetter 12 = .ok (.invokevirtual 87, 3) := by decide +kernel
theorem dX0_isBetter_15 : decode cX0_isBetter 15 = .ok (.istore_n 1, 1) := by decide +kernel
theorem dX0_isBetter_16 : decode cX0_isBetter 16 = .ok (.aload_n 0, 1) := by decide +kernel
theorem dX0_isBetter_17 : decode cX0_isBetter 17 = .ok (.getfield 24, 3) := by decide +kernel
theorem dX0_isBetter_20 : decode cX0_isBetter 20 = .ok (.aload_n 0, 1) := by decide +kernel
theorem dX0_isBetter_21 : decode cX0_isBetter 21 = .ok (.getfield 14, 3) := by decide +kernel
theorem dX0_isBetter_24 : decode cX0_isBetter 24 = .ok (.iconst 5, 1) := by decide +kernel
theorem dX0_isBetter_25 : decode cX0_isBetter 25 = .ok (.invokevirtual 87, 3) := by decide +kernel
theorem dX0_isBetter_28 : decode cX0_isBetter 28 = .ok (.istore_n 2, 1) := by decide +kernel
theorem dX0_isBetter_29 : decode cX0_isBetter 29 = .ok (.iload_n 1, 1) := by decide +kernel
theorem dX0_isBetter_30 : decode cX0_isBetter 30 = .ok (.iload_n 2, 1) := by decide +kernel
theorem dX0_isBetter_31 : decode cX0_isBetter 31 = .ok (.if_icmp .eq 14, 3) := by decide +kernel
theorem dX0_isBetter_34 : decode cX0_isBetter 34 = .ok (.iload_n 1, 1) := by decide +kernel
theorem dX0_isBetter_35 : decode cX0_isBetter 35 = .ok (.iload_n 2, 1) := by decide +kernel
theorem dX0_isBetter_36 : decode cX0_isBetter 36 = .ok (.if_icmp .ge 7, 3) := by decide +kernel
theorem dX0_isBetter_39 : decode cX0_isBetter 39 = .ok (.iconst 1, 1) := by decide +kernel
theorem dX0_isBetter_40 : decode cX0_isBetter 40 = .ok (.goto 4, 3) := by decide +kernel
theorem dX0_isBetter_43 : decode cX0_isBetter 43 = .ok (.iconst 0, 1) := by decide +kernel
theorem dX0_isBetter_44 : decode cX0_isBetter 44 = .ok (.ireturn, 1) := by decide +kernel
theorem dX0_isBetter_45 : decode cX0_isBetter 45 = .ok (.iconst 0, 1) := by decide +kernel
theorem dX0_isBetter_46 : decode cX0_isBetter 46 = .ok (.istore_n 3, 1) := by decide +kernel
theorem dX0_isBetter_47 : decode cX0_isBetter 47 = .ok (.iload_n 3, 1) := by decide +kernel
theorem dX0_isBetter_48 : decode cX0_isBetter 48 = .ok (.bipush 6, 2) := by decide +kernel
theorem dX0_isBetter_50 : decode cX0_isBetter 50 = .ok (.if_icmp .ge 68, 3) := by decide +kernel
theorem dX0_isBetter_53 : decode cX0_isBetter 53 = .ok (.aload_n 0, 1) := by decide +kernel
theorem dX0_isBetter_54 : decode cX0_isBetter 54 = .ok (.getfield 24, 3) := by decide +kernel
theorem dX0_isBetter_57 : decode cX0_isBetter 57 = .ok (.iload_n 3, 1) := by decide +kernel
theorem dX0_isBetter_58 : decode cX0_isBetter 58 = .ok (.aload_n 0, 1) := by decide +kernel
theorem dX0_isBetter_59 : decode cX0_isBetter 59 = .ok (.getfield 33, 3) := by decide +kernel
theorem dX0_isBetter_62 : decode cX0_isBetter 62 = .ok (.getfield 64, 3) := by decide +kernel
theorem dX0_isBetter_65 : decode cX0_isBetter 65 = .ok (.iload_n 3, 1) := by decide +kernel
theorem dX0_isBetter_66 : decode cX0_isBetter 66 = .ok (.invokevirtual 91, 3) := by decide +kernel
theorem dX0_isBetter_69 : decode cX0_isBetter 69 = .ok (.invokevirtual 95, 3) := by decide +kernel
theorem dX0_isBetter_72 : decode cX0_isBetter 72 = .ok (.istore 4, 2) := by decide +kernel
theorem dX0_isBetter_74 : decode cX0_isBetter 74 = .ok (.aload_n 0, 1) := by decide +kernel
theorem dX0_isBetter_75 : decode cX0_isBetter 75 = .ok (.getfield 24, 3) := by decide +kernel
theorem dX0_isBetter_78 : decode cX0_isBetter 78 = .ok (.iload_n 3, 1) := by decide +kernel
theorem dX0_isBetter_79 : decode cX0_isBetter 79 = .ok (.aload_n 0, 1) := by decide +kernel
theorem dX0_isBetter_80 : decode cX0_isBetter 80 = .ok (.getfield 14, 3) := by decide +kernel
theorem dX0_isBetter_83 : decode cX0_isBetter 83 = .ok (.iload_n 3, 1) := by decide +kernel
theorem dX0_isBetter_84 : decode cX0_isBetter 84 = .ok (.invokevirtual 91, 3) := by decide +kernel
theorem dX0_isBetter_87 : decode cX0_isBetter 87 = .ok (.invokevirtual 95, 3) := by decide +kernel
theorem dX0_isBetter_90 : decode cX0_isBetter 90 = .ok (.istore 5, 2) := by decide +kernel
theorem dX0_isBetter_92 : decode cX0_isBetter 92 = .ok (.iload 4, 2) := by decide +kernel
theorem dX0_isBetter_94 : decode cX0_isBetter 94 = .ok (.iload 5, 2) := by decide +kernel
theorem dX0_isBetter_96 : decode cX0_isBetter 96 = .ok (.if_icmp .eq 16, 3) := by decide +kernel
theorem dX0_isBetter_99 : decode cX0_isBetter 99 = .ok (.iload 4, 2) := by decide +kernel
theorem dX0_isBetter_101 : decode cX0_isBetter 101 = .ok (.iload 5, 2) := by decide +kernel
theorem dX0_isBetter_103 : decode cX0_isBetter 103 = .ok (.if_icmp .le 7, 3) := by decide +kernel
theorem dX0_isBetter_106 : decode cX0_isBetter 106 = .ok (.iconst 1, 1) := by decide +kernel
theorem dX0_isBetter_107 : decode cX0_isBetter 107 = .ok (.goto 4, 3) := by decide +kernel
theorem dX0_isBetter_110 : decode cX0_isBetter 110 = .ok (.iconst 0, 1) := by decide +kernel
theorem dX0_isBetter_111 : decode cX0_isBetter 111 = .ok (.ireturn, 1) := by decide +kernel
theorem dX0_isBetter_112 : decode cX0_isBetter 112 = .ok (.iinc 3 1, 3) := by decide +kernel
theorem dX0_isBetter_115 : decode cX0_isBetter 115 = .ok (.goto (-68), 3) := by decide +kernel
theorem dX0_isBetter_118 : decode cX0_isBetter 118 = .ok (.iconst 0, 1) := by decide +kernel
theorem dX0_isBetter_119 : decode cX0_isBetter 119 = .ok (.ireturn, 1) := by decide +kernel
theorem dX1_init_0 : decode cX1_init 0 = .ok (.aload_n 0, 1) := by decide +kernel
theorem dX1_init_1 : decode cX1_init 1 = .ok (.invokespecial 3, 3) := by decide +kernel
theorem dX1_init_4 : decode cX1_init 4 = .ok (.aload_n 0, 1) := by decide +kernel
theorem dX1_init_5 : decode cX1_init 5 = .ok (.new 9, 3) := by decide +kernel
theorem dX1_init_8 : decode cX1_init 8 = .ok (.dup, 1) := by decide +kernel
theorem dX1_init_9 : decode cX1_init 9 = .ok (.bipush 6, 2) := by decide +kernel
theorem dX1_init_11 : decode cX1_init 11 = .ok (.iconst (-1), 1) := by decide +kernel
theorem dX1_init_12 : decode cX1_init 12 = .ok (.invokespecial 11, 3) := by decide +kernel
theorem dX1_init_15 : decode cX1_init 15 = .ok (.putfield 14, 3) := by decide +kernel
theorem dX1_init_18 : decode cX1_init 18 = .ok (.aload_n 0, 1) := by decide +kernel
theorem dX1_init_19 : decode cX1_init 19 = .ok (.new 9, 3) := by decide +kernel
theorem dX1_init_22 : decode cX1_init 22 = .ok (.dup, 1) := by decide +kernel
theorem dX1_init_23 : decode cX1_init 23 = .ok (.bipush 6, 2) := by decide +kernel
theorem dX1_init_25 : decode cX1_init 25 = .ok (.iconst 0, 1) := by decide +kernel
theorem dX1_init_26 : decode cX1_init 26 = .ok (.invokespecial 11, 3) := by decide +kernel
theorem dX1_init_29 : decode cX1_init 29 = .ok (.putfield 20, 3) := by decide +kernel
theorem dX1_init_32 : decode cX1_init 32 = .ok (.aload_n 0, 1) := by decide +kernel
theorem dX1_init_33 : decode cX1_init 33 = .ok (.aload_n 1, 1) := by decide +kernel
theorem dX1_init_34 : decode cX1_init 34 = .ok (.putfield 23, 3) := by decide +kernel
theorem dX1_init_37 : decode cX1_init 37 = .ok (.return_, 1) := by decide +kernel
theorem dX1_isSolution_0 : decode cX1_isSolution 0 = .ok (.aload_n 0, 1) := by decide +kernel
theorem dX1_isSolution_1 : decode cX1_isSolution 1 = .ok (.iload_n 1, 1) := by decide +kernel
theorem dX1_isSolution_2 : decode cX1_isSolution 2 = .ok (.invokevirtual 27, 3) := by decide +kernel
theorem dX1_isSolution_5 : decode cX1_isSolution 5 = .ok (.ifCond .ne 5, 3) := by decide +kernel
theorem dX1_isSolution_8 : decode cX1_isSolution 8 = .ok (.iconst 0, 1) := by decide +kernel
theorem dX1_isSolution_9 : decode cX1_isSolution 9 = .ok (.ireturn, 1) := by decide +kernel
theorem dX1_isSolution_10 : decode cX1_isSolution 10 = .ok (.aload_n 0, 1) := by decide +kernel
theorem dX1_isSolution_11 : decode cX1_isSolution 11 = .ok (.iload_n 1, 1) := by decide +kernel
theorem dX1_isSolution_12 : decode cX1_isSolution 12 = .ok (.invokevirtual 31, 3) := by decide +kernel
theorem dX1_isSolution_15 : decode cX1_isSolution 15 = .ok (.aload_n 0, 1) := by decide +kernel
theorem dX1_isSolution_16 : decode cX1_isSolution 16 = .ok (.iconst 5, 1) := by decide +kernel
theorem dX1_isSolution_17 : decode cX1_isSolution 17 = .ok (.invokevirtual 35, 3) := by decide +kernel
theorem dX1_isSolution_20 : decode cX1_isSolution 20 = .ok (.ifCond .eq 15, 3) := by decide +kernel
theorem dX1_isSolution_23 : decode cX1_isSolution 23 = .ok (.aload_n 0, 1) := by decide +kernel
theorem dX1_isSolution_24 : decode cX1_isSolution 24 = .ok (.iload_n 1, 1) := by decide +kernel
theorem dX1_isSolution_25 : decode cX1_isSolution 25 = .ok (.invokevirtual 38, 3) := by decide +kernel
theorem dX1_isSolution_28 : decode cX1_isSolution 28 = .ok (.ifCond .eq 7, 3) := by decide +kernel
theorem dX1_isSolution_31 : decode cX1_isSolution 31 = .ok (.iconst 1, 1) := by decide +kernel
theorem dX1_isSolution_32 : decode cX1_isSolution 32 = .ok (.goto 4, 3) := by decide +kernel
theorem dX1_isSolution_35 : decode cX1_isSolution 35 = .ok (.iconst 0, 1) := by decide +kernel
theorem dX1_isSolution_36 : decode cX1_isSolution 36 = .ok (.ireturn, 1) := by decide +kernel
theorem dX1_meets_0 : decode cX1_meets 0 = .ok (.iconst 0, 1) := by decide +kernel
theorem dX1_meets_1 : decode cX1_meets 1 = .ok (.istore_n 2, 1) := by decide +kernel
theorem dX1_meets_2 : decode cX1_meets 2 = .ok (.iload_n 2, 1) := by decide +kernel
theorem dX1_meets_3 : decode cX1_meets 3 = .ok (.aload_n 0, 1) := by decide +kernel
theorem dX1_meets_4 : decode cX1_meets 4 = .ok (.getfield 23, 3) := by decide +kernel
theorem dX1_meets_7 : decode cX1_meets 7 = .ok (.getfield 41, 3) := by decide +kernel
theorem dX1_meets_10 : decode cX1_meets 10 = .ok (.getfield 47, 3) := by decide +kernel
theorem dX1_meets_13 : decode cX1_meets 13 = .ok (.if_icmp .ge 63, 3) := by decide +kernel
theorem dX1_meets_16 : decode cX1_meets 16 = .ok (.aload_n 0, 1) := by decide +kernel
theorem dX1_meets_17 : decode cX1_meets 17 = .ok (.getfield 14, 3) := by decide +kernel
theorem dX1_meets_20 : decode cX1_meets 20 = .ok (.aload_n 0, 1) := by decide +kernel
theorem dX1_meets_21 : decode cX1_meets 21 = .ok (.getfield 23, 3) := by decide +kernel
theorem dX1_meets_24 : decode cX1_meets 24 = .ok (.iload_n 2, 1) := by decide +kernel
theorem dX1_meets_25 : decode cX1_meets 25 = .ok (.invokevirtual 53, 3) := by decide +kernel
theorem dX1_meets_28 : decode cX1_meets 28 = .ok (.invokevirtual 57, 3) := by decide +kernel
theorem dX1_meets_31 : decode cX1_meets 31 = .ok (.istore_n 3, 1) := by decide +kernel
theorem dX1_meets_32 : decode cX1_meets 32 = .ok (.iload_n 1, 1) := by decide +kernel
theorem dX1_meets_33 : decode cX1_meets 33 = .ok (.iload_n 2, 1) := by decide +kernel
theorem dX1_meets_34 : decode cX1_meets 34 = .ok (.invokestatic 60, 3) := by decide +kernel
theorem dX1_meets_37 : decode cX1_meets 37 = .ok (.ifCond .eq 33, 3) := by decide +kernel
theorem dX1_meets_40 : decode cX1_meets 40 = .ok (.aload_n 0, 1) := by decide +kernel
theorem dX1_meets_41 : decode cX1_meets 41 = .ok (.getfield 23, 3) := by decide +kernel
theorem dX1_meets_44 : decode cX1_meets 44 = .ok (.getfield 64, 3) := by decide +kernel
theorem dX1_meets_47 : decode cX1_meets 47 = .ok (.aload_n 0, 1) := by decide +kernel
theorem dX1_meets_48 : decode cX1_meets 48 = .ok (.getfield 23, 3) := by decide +kernel
theorem dX1_meets_51 : decode cX1_meets 51 = .ok (.getfield 41, 3) := by decide +kernel
theorem dX1_meets_54 : decode cX1_meets 54 = .ok (.getfield 68, 3) := by decide +kernel
theorem dX1_meets_57 : decode cX1_meets 57 = .ok (.iload_n 2, 1) := by decide +kernel
theorem dX1_meets_58 : decode cX1_meets 58 = .ok (.invokevirtual 57, 3) := by decide +kernel
theorem dX1_meets_61 : decode cX1_meets 61 = .ok (.iload_n 3, 1) := by decide +kernel
theorem dX1_meets_62 : decode cX1_meets 62 = .ok (.invokevirtual 70, 3) := by decide +kernel
theorem dX1_meets_65 : decode cX1_meets 65 = .ok (.ifCond .ne 5, 3) := by decide +kernel
theorem dX1_meets_68 : decode cX1_meets 68 = .ok (.iconst 0, 1) := by decide +kernel
theorem dX1_meets_69 : decode cX1_meets 69 = .ok (.ireturn, 1) := by decide +kernel
theorem dX1_meets_70 : decode cX1_meets 70 = .ok (.iinc 2 1, 3) := by decide +kernel
theorem dX1_meets_73 : decode cX1_meets 73 = .ok (.goto (-71), 3) := by decide +kernel
theorem dX1_meets_76 : decode cX1_meets 76 = .ok (.iconst 1, 1) := by decide +kernel
theorem dX1_meets_77 : decode cX1_meets 77 = .ok (.ireturn, 1) := by decide +kernel
theorem dX1_standsUpTo_0 : decode cX1_standsUpTo 0 = .ok (.iconst 0, 1) := by decide +kernel
theorem dX1_standsUpTo_1 : decode cX1_standsUpTo 1 = .ok (.istore_n 2, 1) := by decide +kernel
theorem dX1_standsUpTo_2 : decode cX1_standsUpTo 2 = .ok (.iload_n 2, 1) := by decide +kernel
theorem dX1_standsUpTo_3 : decode cX1_standsUpTo 3 = .ok (.iload_n 1, 1) := by decide +kernel
theorem dX1_standsUpTo_4 : decode cX1_standsUpTo 4 = .ok (.if_icmp .gt 20, 3) := by decide +kernel
theorem dX1_standsUpTo_7 : decode cX1_standsUpTo 7 = .ok (.aload_n 0, 1) := by decide +kernel
theorem dX1_standsUpTo_8 : decode cX1_standsUpTo 8 = .ok (.iload_n 2, 1) := by decide +kernel
theorem dX1_standsUpTo_9 : decode cX1_standsUpTo 9 = .ok (.iload_n 1, 1) := by decide +kernel
theorem dX1_standsUpTo_10 : decode cX1_standsUpTo 10 = .ok (.invokevirtual 75, 3) := by decide +kernel
theorem dX1_standsUpTo_13 : decode cX1_standsUpTo 13 = .ok (.ifCond .ne 5, 3) := by decide +kernel
theorem dX1_standsUpTo_16 : decode cX1_standsUpTo 16 = .ok (.iconst 0, 1) := by decide +kernel
theorem dX1_standsUpTo_17 : decode cX1_standsUpTo 17 = .ok (.ireturn, 1) := by decide +kernel
theorem dX1_standsUpTo_18 : decode cX1_standsUpTo 18 = .ok (.iinc 2 1, 3) := by decide +kernel
theorem dX1_standsUpTo_21 : decode cX1_standsUpTo 21 = .ok (.goto (-19), 3) := by decide +kernel
theorem dX1_standsUpTo_24 : decode cX1_standsUpTo 24 = .ok (.iconst 1, 1) := by decide +kernel
theorem dX1_standsUpTo_25 : decode cX1_standsUpTo 25 = .ok (.ireturn, 1) := by decide +kernel
theorem dX1_holdsNeeds_0 : decode cX1_holdsNeeds 0 = .ok (.aload_n 0, 1) := by decide +kernel
theorem dX1_holdsNeeds_1 : decode cX1_holdsNeeds 1 = .ok (.getfield 14, 3) := by decide +kernel
theorem dX1_holdsNeeds_4 : decode cX1_holdsNeeds 4 = .ok (.iload_n 1, 1) := by decide +kernel
theorem dX1_holdsNeeds_5 : decode cX1_holdsNeeds 5 = .ok (.invokevirtual 57, 3) := by decide +kernel
theorem dX1_holdsNeeds_8 : decode cX1_holdsNeeds 8 = .ok (.istore_n 3, 1) := by decide +kernel
theorem dX1_holdsNeeds_9 : decode cX1_holdsNeeds 9 = .ok (.aload_n 0, 1) := by decide +kernel
theorem dX1_holdsNeeds_10 : decode cX1_holdsNeeds 10 = .ok (.getfield 23, 3) := by decide +kernel
theorem dX1_holdsNeeds_13 : decode cX1_holdsNeeds 13 = .ok (.getfield 78, 3) := by decide +kernel
theorem dX1_holdsNeeds_16 : decode cX1_holdsNeeds 16 = .ok (.iload_n 3, 1) := by decide +kernel
theorem dX1_holdsNeeds_17 : decode cX1_holdsNeeds 17 = .ok (.invokevirtual 82, 3) := by decide +kernel
theorem dX1_holdsNeeds_20 : decode cX1_holdsNeeds 20 = .ok (.istore 4, 2) := by decide +kernel
theorem dX1_holdsNeeds_22 : decode cX1_holdsNeeds 22 = .ok (.aload_n 0, 1) := by decide +kernel
theorem dX1_holdsNeeds_23 : decode cX1_holdsNeeds 23 = .ok (.getfield 23, 3) := by decide +kernel
theorem dX1_holdsNeeds_26 : decode cX1_holdsNeeds 26 = .ok (.getfield 78, 3) := by decide +kernel
theorem dX1_holdsNeeds_29 : decode cX1_holdsNeeds 29 = .ok (.iload_n 3, 1) := by decide +kernel
theorem dX1_holdsNeeds_30 : decode cX1_holdsNeeds 30 = .ok (.invokevirtual 87, 3) := by decide +kernel
theorem dX1_holdsNeeds_33 : decode cX1_holdsNeeds 33 = .ok (.istore 5, 2) := by decide +kernel
theorem dX1_holdsNeeds_35 : decode cX1_holdsNeeds 35 = .ok (.iload 5, 2) := by decide +kernel
theorem dX1_holdsNeeds_37 : decode cX1_holdsNeeds 37 = .ok (.iload 4, 2) := by decide +kernel
theorem dX1_holdsNeeds_39 : decode cX1_holdsNeeds 39 = .ok (.if_icmp .ge 66, 3) := by decide +kernel
theorem dX1_holdsNeeds_42 : decode cX1_holdsNeeds 42 = .ok (.aload_n 0, 1) := by decide +kernel
theorem dX1_holdsNeeds_43 : decode cX1_holdsNeeds 43 = .ok (.getfield 23, 3) := by decide +kernel
theorem dX1_holdsNeeds_46 : decode cX1_holdsNeeds 46 = .ok (.iload 5, 2) := by decide +kernel
theorem dX1_holdsNeeds_48 : decode cX1_holdsNeeds 48 = .ok (.invokevirtual 90, 3) := by decide +kernel
theorem dX1_holdsNeeds_51 : decode cX1_holdsNeeds 51 = .ok (.istore 6, 2) := by decide +kernel
theorem dX1_holdsNeeds_53 : decode cX1_holdsNeeds 53 = .ok (.iload 6, 2) := by decide +kernel
theorem dX1_holdsNeeds_55 : decode cX1_holdsNeeds 55 = .ok (.iload_n 2, 1) := by decide +kernel
theorem dX1_holdsNeeds_56 : decode cX1_holdsNeeds 56 = .ok (.if_icmp .gt 43, 3) := by decide +kernel
theorem dX1_holdsNeeds_59 : decode cX1_holdsNeeds 59 = .ok (.aload_n 0, 1) := by decide +kernel
theorem dX1_holdsNeeds_60 : decode cX1_holdsNeeds 60 = .ok (.getfield 23, 3) := by decide +kernel
theorem dX1_holdsNeeds_63 : decode cX1_holdsNeeds 63 = .ok (.iload 5, 2) := by decide +kernel
theorem dX1_holdsNeeds_65 : decode cX1_holdsNeeds 65 = .ok (.aload_n 0, 1) := by decide +kernel
theorem dX1_holdsNeeds_66 : decode cX1_holdsNeeds 66 = .ok (.getfield 20, 3) := by decide +kernel
theorem dX1_holdsNeeds_69 : decode cX1_holdsNeeds 69 = .ok (.iload_n 1, 1) := by decide +kernel
theorem dX1_holdsNeeds_70 : decode cX1_holdsNeeds 70 = .ok (.invokevirtual 57, 3) := by decide +kernel
theorem dX1_holdsNeeds_73 : decode cX1_holdsNeeds 73 = .ok (.invokevirtual 93, 3) := by decide +kernel
theorem dX1_holdsNeeds_76 : decode cX1_holdsNeeds 76 = .ok (.ifCond .eq 23, 3) := by decide +kernel
theorem dX1_holdsNeeds_79 : decode cX1_holdsNeeds 79 = .ok (.aload_n 0, 1) := by decide +kernel
theorem dX1_holdsNeeds_80 : decode cX1_holdsNeeds 80 = .ok (.iload 5, 2) := by decide +kernel
theorem dX1_holdsNeeds_82 : decode cX1_holdsNeeds 82 = .ok (.aload_n 0, 1) := by decide +kernel
theorem dX1_holdsNeeds_83 : decode cX1_holdsNeeds 83 = .ok (.getfield 14, 3) := by decide +kernel
theorem dX1_holdsNeeds_86 : decode cX1_holdsNeeds 86 = .ok (.iload 6, 2) := by decide +kernel
theorem dX1_holdsNeeds_88 : decode cX1_holdsNeeds 88 = .ok (.invokevirtual 57, 3) := by decide +kernel
theorem dX1_holdsNeeds_91 : decode cX1_holdsNeeds 91 = .ok (.invokevirtual 96, 3) := by decide +kernel
theorem dX1_holdsNeeds_94 : decode cX1_holdsNeeds 94 = .ok (.ifCond .ne 5, 3) := by decide +kernel
theorem dX1_holdsNeeds_97 : decode cX1_holdsNeeds 97 = .ok (.iconst 0, 1) := by decide +kernel
theorem dX1_holdsNeeds_98 : decode cX1_holdsNeeds 98 = .ok (.ireturn, 1) := by decide +kernel
theorem dX1_holdsNeeds_99 : decode cX1_holdsNeeds 99 = .ok (.iinc 5 1, 3) := by decide +kernel
theorem dX1_holdsNeeds_102 : decode cX1_holdsNeeds 102 = .ok (.goto (-67), 3) := by decide +kernel
theorem dX1_holdsNeeds_105 : decode cX1_holdsNeeds 105 = .ok (.iconst 1, 1) := by decide +kernel
theorem dX1_holdsNeeds_106 : decode cX1_holdsNeeds 106 = .ok (.ireturn, 1) := by decide +kernel
theorem dX1_isServed_0 : decode cX1_isServed 0 = .ok (.iload_n 2, 1) := by decide +kernel
theorem dX1_isServed_1 : decode cX1_isServed 1 = .ok (.iconst (-1), 1) := by decide +kernel
theorem dX1_isServed_2 : decode cX1_isServed 2 = .ok (.if_icmp .ne 27, 3) := by decide +kernel
theorem dX1_isServed_5 : decode cX1_isServed 5 = .ok (.aload_n 0, 1) := by decide +kernel
theorem dX1_isServed_6 : decode cX1_isServed 6 = .ok (.getfield 23, 3) := by decide +kernel
theorem dX1_isServed_9 : decode cX1_isServed 9 = .ok (.getfield 78, 3) := by decide +kernel
theorem dX1_isServed_12 : decode cX1_isServed 12 = .ok (.getfield 99, 3) := by decide +kernel
theorem dX1_isServed_15 : decode cX1_isServed 15 = .ok (.iload_n 1, 1) := by decide +kernel
theorem dX1_isServed_16 : decode cX1_isServed 16 = .ok (.invokevirtual 57, 3) := by decide +kernel
theorem dX1_isServed_19 : decode cX1_isServed 19 = .ok (.iconst 1, 1) := by decide +kernel
theorem dX1_isServed_20 : decode cX1_isServed 20 = .ok (.if_icmp .ne 7, 3) := by decide +kernel
theorem dX1_isServed_23 : decode cX1_isServed 23 = .ok (.iconst 1, 1) := by decide +kernel
theorem dX1_isServed_24 : decode cX1_isServed 24 = .ok (.goto 4, 3) := by decide +kernel
theorem dX1_isServed_27 : decode cX1_isServed 27 = .ok (.iconst 0, 1) := by decide +kernel
theorem dX1_isServed_28 : decode cX1_isServed 28 = .ok (.ireturn, 1) := by decide +kernel
theorem dX1_isServed_29 : decode cX1_isServed 29 = .ok (.aload_n 0, 1) := by decide +kernel
theorem dX1_isServed_30 : decode cX1_isServed 30 = .ok (.getfield 23, 3) := by decide +kernel
theorem dX1_isServed_33 : decode cX1_isServed 33 = .ok (.getfield 64, 3) := by decide +kernel
theorem dX1_isServed_36 : decode cX1_isServed 36 = .ok (.getfield 102, 3) := by decide +kernel
theorem dX1_isServed_39 : decode cX1_isServed 39 = .ok (.aload_n 0, 1) := by decide +kernel
theorem dX1_isServed_40 : decode cX1_isServed 40 = .ok (.getfield 23, 3) := by decide +kernel
theorem dX1_isServed_43 : decode cX1_isServed 43 = .ok (.getfield 78, 3) := by decide +kernel
theorem dX1_isServed_46 : decode cX1_isServed 46 = .ok (.getfield 105, 3) := by decide +kernel
theorem dX1_isServed_49 : decode cX1_isServed 49 = .ok (.iload_n 1, 1) := by decide +kernel
theorem dX1_isServed_50 : decode cX1_isServed 50 = .ok (.invokevirtual 57, 3) := by decide +kernel
theorem dX1_isServed_53 : decode cX1_isServed 53 = .ok (.invokevirtual 57, 3) := by decide +kernel
theorem dX1_isServed_56 : decode cX1_isServed 56 = .ok (.iload_n 2, 1) := by decide +kernel
theorem dX1_isServed_57 : decode cX1_isServed 57 = .ok (.invokestatic 60, 3) := by decide +kernel
theorem dX1_isServed_60 : decode cX1_isServed 60 = .ok (.ireturn, 1) := by decide +kernel
theorem dX1_turnOn_0 : decode cX1_turnOn 0 = .ok (.aload_n 0, 1) := by decide +kernel
theorem dX1_turnOn_1 : decode cX1_turnOn 1 = .ok (.getfield 20, 3) := by decide +kernel
theorem dX1_turnOn_4 : decode cX1_turnOn 4 = .ok (.iconst 0, 1) := by decide +kernel
theorem dX1_turnOn_5 : decode cX1_turnOn 5 = .ok (.invokevirtual 106, 3) := by decide +kernel
theorem dX1_turnOn_8 : decode cX1_turnOn 8 = .ok (.iconst 0, 1) := by decide +kernel
theorem dX1_turnOn_9 : decode cX1_turnOn 9 = .ok (.istore_n 2, 1) := by decide +kernel
theorem dX1_turnOn_10 : decode cX1_turnOn 10 = .ok (.iload_n 2, 1) := by decide +kernel
theorem dX1_turnOn_11 : decode cX1_turnOn 11 = .ok (.aload_n 0, 1) := by decide +kernel
theorem dX1_turnOn_12 : decode cX1_turnOn 12 = .ok (.getfield 23, 3) := by decide +kernel
theorem dX1_turnOn_15 : decode cX1_turnOn 15 = .ok (.getfield 41, 3) := by decide +kernel
theorem dX1_turnOn_18 : decode cX1_turnOn 18 = .ok (.getfield 47, 3) := by decide +kernel
theorem dX1_turnOn_21 : decode cX1_turnOn 21 = .ok (.if_icmp .ge 47, 3) := by decide +kernel
theorem dX1_turnOn_24 : decode cX1_turnOn 24 = .ok (.iload_n 1, 1) := by decide +kernel
theorem dX1_turnOn_25 : decode cX1_turnOn 25 = .ok (.iload_n 2, 1) := by decide +kernel
theorem dX1_turnOn_26 : decode cX1_turnOn 26 = .ok (.invokestatic 60, 3) := by decide +kernel
theorem dX1_turnOn_29 : decode cX1_turnOn 29 = .ok (.ifCond .eq 33, 3) := by decide +kernel
theorem dX1_turnOn_32 : decode cX1_turnOn 32 = .ok (.aload_n 0, 1) := by decide +kernel
theorem dX1_turnOn_33 : decode cX1_turnOn 33 = .ok (.getfield 20, 3) := by decide +kernel
theorem dX1_turnOn_36 : decode cX1_turnOn 36 = .ok (.aload_n 0, 1) := by decide +kernel
theorem dX1_turnOn_37 : decode cX1_turnOn 37 = .ok (.getfield 23, 3) := by decide +kernel
theorem dX1_turnOn_40 : decode cX1_turnOn 40 = .ok (.iload_n 2, 1) := by decide +kernel
theorem dX1_turnOn_41 : decode cX1_turnOn 41 = .ok (.invokevirtual 53, 3) := by decide +kernel
theorem dX1_turnOn_44 : decode cX1_turnOn 44 = .ok (.aload_n 0, 1) := by decide +kernel
theorem dX1_turnOn_45 : decode cX1_turnOn 45 = .ok (.getfield 23, 3) := by decide +kernel
theorem dX1_turnOn_48 : decode cX1_turnOn 48 = .ok (.getfield 41, 3) := by decide +kernel
theorem dX1_turnOn_51 : decode cX1_turnOn 51 = .ok (.getfield 109, 3) := by decide +kernel
theorem dX1_turnOn_54 : decode cX1_turnOn 54 = .ok (.iload_n 2, 1) := by decide +kernel
theorem dX1_turnOn_55 : decode cX1_turnOn 55 = .ok (.invokevirtual 57, 3) := by decide +kernel
theorem dX1_turnOn_58 : decode cX1_turnOn 58 = .ok (.invokevirtual 112, 3) := by decide +kernel
theorem dX1_turnOn_61 : decode cX1_turnOn 61 = .ok (.pop, 1) := by decide +kernel
theorem dX1_turnOn_62 : decode cX1_turnOn 62 = .ok (.iinc 2 1, 3) := by decide +kernel
theorem dX1_turnOn_65 : decode cX1_turnOn 65 = .ok (.goto (-55), 3) := by decide +kernel
theorem dX1_turnOn_68 : decode cX1_turnOn 68 = .ok (.iconst 1, 1) := by decide +kernel
theorem dX1_turnOn_69 : decode cX1_turnOn 69 = .ok (.istore_n 2, 1) := by decide +kernel
theorem dX1_turnOn_70 : decode cX1_turnOn 70 = .ok (.iconst 0, 1) := by decide +kernel
theorem dX1_turnOn_71 : decode cX1_turnOn 71 = .ok (.istore_n 3, 1) := by decide +kernel
theorem dX1_turnOn_72 : decode cX1_turnOn 72 = .ok (.iload_n 2, 1) := by decide +kernel
theorem dX1_turnOn_73 : decode cX1_turnOn 73 = .ok (.ifCond .eq 42, 3) := by decide +kernel
theorem dX1_turnOn_76 : decode cX1_turnOn 76 = .ok (.iload_n 3, 1) := by decide +kernel
theorem dX1_turnOn_77 : decode cX1_turnOn 77 = .ok (.bipush 18, 2) := by decide +kernel
theorem dX1_turnOn_79 : decode cX1_turnOn 79 = .ok (.if_icmp .gt 36, 3) := by decide +kernel
theorem dX1_turnOn_82 : decode cX1_turnOn 82 = .ok (.iconst 0, 1) := by decide +kernel
theorem dX1_turnOn_83 : decode cX1_turnOn 83 = .ok (.istore_n 2, 1) := by decide +kernel
theorem dX1_turnOn_84 : decode cX1_turnOn 84 = .ok (.iconst 0, 1) := by decide +kernel
theorem dX1_turnOn_85 : decode cX1_turnOn 85 = .ok (.istore 4, 2) := by decide +kernel
theorem dX1_turnOn_87 : decode cX1_turnOn 87 = .ok (.iload 4, 2) := by decide +kernel
theorem dX1_turnOn_89 : decode cX1_turnOn 89 = .ok (.bipush 6, 2) := by decide +kernel
theorem dX1_turnOn_91 : decode cX1_turnOn 91 = .ok (.if_icmp .ge 18, 3) := by decide +kernel
theorem dX1_turnOn_94 : decode cX1_turnOn 94 = .ok (.iload_n 2, 1) := by decide +kernel
theorem dX1_turnOn_95 : decode cX1_turnOn 95 = .ok (.aload_n 0, 1) := by decide +kernel
theorem dX1_turnOn_96 : decode cX1_turnOn 96 = .ok (.iload 4, 2) := by decide +kernel
theorem dX1_turnOn_98 : decode cX1_turnOn 98 = .ok (.invokevirtual 115, 3) := by decide +kernel
theorem dX1_turnOn_101 : decode cX1_turnOn 101 = .ok (.ior, 1) := by decide +kernel
theorem dX1_turnOn_102 : decode cX1_turnOn 102 = .ok (.istore_n 2, 1) := by decide +kernel
theorem dX1_turnOn_103 : decode cX1_turnOn 103 = .ok (.iinc 4 1, 3) := by decide +kernel
theorem dX1_turnOn_106 : decode cX1_turnOn 106 = .ok (.goto (-19), 3) := by decide +kernel
theorem dX1_turnOn_109 : decode cX1_turnOn 109 = .ok (.iinc 3 1, 3) := by decide +kernel
theorem dX1_turnOn_112 : decode cX1_turnOn 112 = .ok (.goto (-40), 3) := by decide +kernel
theorem dX1_turnOn_115 : decode cX1_turnOn 115 = .ok (.return_, 1) := by decide +kernel
theorem dX1_turnOnBy_0 : decode cX1_turnOnBy 0 = .ok (.aload_n 0, 1) := by decide +kernel
theorem dX1_turnOnBy_1 : decode cX1_turnOnBy 1 = .ok (.getfield 14, 3) := by decide +kernel
theorem dX1_turnOnBy_4 : decode cX1_turnOnBy 4 = .ok (.iload_n 1, 1) := by decide +kernel
theorem dX1_turnOnBy_5 : decode cX1_turnOnBy 5 = .ok (.invokevirtual 57, 3) := by decide +kernel
theorem dX1_turnOnBy_8 : decode cX1_turnOnBy 8 = .ok (.istore_n 2, 1) := by decide +kernel
theorem dX1_turnOnBy_9 : decode cX1_turnOnBy 9 = .ok (.iload_n 2, 1) := by decide +kernel
theorem dX1_turnOnBy_10 : decode cX1_turnOnBy 10 = .ok (.iconst (-1), 1) := by decide +kernel
theorem dX1_turnOnBy_11 : decode cX1_turnOnBy 11 = .ok (.if_icmp .ne 5, 3) := by decide +kernel
theorem dX1_turnOnBy_14 : decode cX1_turnOnBy 14 = .ok (.iconst 0, 1) := by decide +kernel
theorem dX1_turnOnBy_15 : decode cX1_turnOnBy 15 = .ok (.ireturn, 1) := by decide +kernel
theorem dX1_turnOnBy_16 : decode cX1_turnOnBy 16 = .ok (.aload_n 0, 1) := by decide +kernel
theorem dX1_turnOnBy_17 : decode cX1_turnOnBy 17 = .ok (.getfield 20, 3) := by decide +kernel
theorem dX1_turnOnBy_20 : decode cX1_turnOnBy 20 = .ok (.iload_n 1, 1) := by decide +kernel
theorem dX1_turnOnBy_21 : decode cX1_turnOnBy 21 = .ok (.aload_n 0, 1) := by decide +kernel
theorem dX1_turnOnBy_22 : decode cX1_turnOnBy 22 = .ok (.getfield 23, 3) := by decide +kernel
theorem dX1_turnOnBy_25 : decode cX1_turnOnBy 25 = .ok (.getfield 118, 3) := by decide +kernel
theorem dX1_turnOnBy_28 : decode cX1_turnOnBy 28 = .ok (.iload_n 2, 1) := by decide +kernel
theorem dX1_turnOnBy_29 : decode cX1_turnOnBy 29 = .ok (.aload_n 0, 1) := by decide +kernel
theorem dX1_turnOnBy_30 : decode cX1_turnOnBy 30 = .ok (.getfield 20, 3) := by decide +kernel
theorem dX1_turnOnBy_33 : decode cX1_turnOnBy 33 = .ok (.iload_n 1, 1) := by decide +kernel
theorem dX1_turnOnBy_34 : decode cX1_turnOnBy 34 = .ok (.invokevirtual 57, 3) := by decide +kernel
theorem dX1_turnOnBy_37 : decode cX1_turnOnBy 37 = .ok (.invokevirtual 122, 3) := by decide +kernel
theorem dX1_turnOnBy_40 : decode cX1_turnOnBy 40 = .ok (.invokevirtual 112, 3) := by decide +kernel
theorem dX1_turnOnBy_43 : decode cX1_turnOnBy 43 = .ok (.istore_n 3, 1) := by decide +kernel
theorem dX1_turnOnBy_44 : decode cX1_turnOnBy 44 = .ok (.aload_n 0, 1) := by decide +kernel
theorem dX1_turnOnBy_45 : decode cX1_turnOnBy 45 = .ok (.getfield 23, 3) := by decide +kernel
theorem dX1_turnOnBy_48 : decode cX1_turnOnBy 48 = .ok (.getfield 78, 3) := by decide +kernel
theorem dX1_turnOnBy_51 : decode cX1_turnOnBy 51 = .ok (.iload_n 2, 1) := by decide +kernel
theorem dX1_turnOnBy_52 : decode cX1_turnOnBy 52 = .ok (.invokevirtual 82, 3) := by decide +kernel
theorem dX1_turnOnBy_55 : decode cX1_turnOnBy 55 = .ok (.istore 4, 2) := by decide +kernel
theorem dX1_turnOnBy_57 : decode cX1_turnOnBy 57 = .ok (.aload_n 0, 1) := by decide +kernel
theorem dX1_turnOnBy_58 : decode cX1_turnOnBy 58 = .ok (.getfield 23, 3) := by decide +kernel
theorem dX1_turnOnBy_61 : decode cX1_turnOnBy 61 = .ok (.getfield 78, 3) := by decide +kernel
theorem dX1_turnOnBy_64 : decode cX1_turnOnBy 64 = .ok (.iload_n 2, 1) := by decide +kernel
theorem dX1_turnOnBy_65 : decode cX1_turnOnBy 65 = .ok (.invokevirtual 87, 3) := by decide +kernel
theorem dX1_turnOnBy_68 : decode cX1_turnOnBy 68 = .ok (.istore 5, 2) := by decide +kernel
theorem dX1_turnOnBy_70 : decode cX1_turnOnBy 70 = .ok (.iload 5, 2) := by decide +kernel
theorem dX1_turnOnBy_72 : decode cX1_turnOnBy 72 = .ok (.iload 4, 2) := by decide +kernel
theorem dX1_turnOnBy_74 : decode cX1_turnOnBy 74 = .ok (.if_icmp .ge 72, 3) := by decide +kernel
theorem dX1_turnOnBy_77 : decode cX1_turnOnBy 77 = .ok (.aload_n 0, 1) := by decide +kernel
theorem dX1_turnOnBy_78 : decode cX1_turnOnBy 78 = .ok (.getfield 23, 3) := by decide +kernel
theorem dX1_turnOnBy_81 : decode cX1_turnOnBy 81 = .ok (.getfield 78, 3) := by decide +kernel
theorem dX1_turnOnBy_84 : decode cX1_turnOnBy 84 = .ok (.getfield 128, 3) := by decide +kernel
theorem dX1_turnOnBy_87 : decode cX1_turnOnBy 87 = .ok (.iload 5, 2) := by decide +kernel
theorem dX1_turnOnBy_89 : decode cX1_turnOnBy 89 = .ok (.invokevirtual 57, 3) := by decide +kernel
theorem dX1_turnOnBy_92 : decode cX1_turnOnBy 92 = .ok (.istore 6, 2) := by decide +kernel
theorem dX1_turnOnBy_94 : decode cX1_turnOnBy 94 = .ok (.iload 6, 2) := by decide +kernel
theorem dX1_turnOnBy_96 : decode cX1_turnOnBy 96 = .ok (.ifCond .eq 44, 3) := by decide +kernel
theorem dX1_turnOnBy_99 : decode cX1_turnOnBy 99 = .ok (.aload_n 0, 1) := by decide +kernel
theorem dX1_turnOnBy_100 : decode cX1_turnOnBy 100 = .ok (.getfield 23, 3) := by decide +kernel
theorem dX1_turnOnBy_103 : decode cX1_turnOnBy 103 = .ok (.iload 5, 2) := by decide +kernel
theorem dX1_turnOnBy_105 : decode cX1_turnOnBy 105 = .ok (.aload_n 0, 1) := by decide +kernel
theorem dX1_turnOnBy_106 : decode cX1_turnOnBy 106 = .ok (.getfield 20, 3) := by decide +kernel
theorem dX1_turnOnBy_109 : decode cX1_turnOnBy 109 = .ok (.iload_n 1, 1) := by decide +kernel
theorem dX1_turnOnBy_110 : decode cX1_turnOnBy 110 = .ok (.invokevirtual 57, 3) := by decide +kernel
theorem dX1_turnOnBy_113 : decode cX1_turnOnBy 113 = .ok (.invokevirtual 93, 3) := by decide +kernel
theorem dX1_turnOnBy_116 : decode cX1_turnOnBy 116 = .ok (.ifCond .eq 24, 3) := by decide +kernel
theorem dX1_turnOnBy_119 : decode cX1_turnOnBy 119 = .ok (.iload_n 3, 1) := by decide +kernel
theorem dX1_turnOnBy_120 : decode cX1_turnOnBy 120 = .ok (.aload_n 0, 1) := by decide +kernel
theorem dX1_turnOnBy_121 : decode cX1_turnOnBy 121 = .ok (.getfield 20, 3) := by decide +kernel
theorem dX1_turnOnBy_124 : decode cX1_turnOnBy 124 = .ok (.aload_n 0, 1) := by decide +kernel
theorem dX1_turnOnBy_125 : decode cX1_turnOnBy 125 = .ok (.getfield 23, 3) := by decide +kernel
theorem dX1_turnOnBy_128 : decode cX1_turnOnBy 128 = .ok (.iload 5, 2) := by decide +kernel
theorem dX1_turnOnBy_130 : decode cX1_turnOnBy 130 = .ok (.invokevirtual 90, 3) := by decide +kernel
theorem dX1_turnOnBy_133 : decode cX1_turnOnBy 133 = .ok (.iload 6, 2) := by decide +kernel
theorem dX1_turnOnBy_135 : decode cX1_turnOnBy 135 = .ok (.invokevirtual 112, 3) := by decide +kernel
theorem dX1_turnOnBy_138 : decode cX1_turnOnBy 138 = .ok (.ior, 1) := by decide +kernel
theorem dX1_turnOnBy_139 : decode cX1_turnOnBy 139 = .ok (.istore_n 3, 1) := by decide +kernel
theorem dX1_turnOnBy_140 : decode cX1_turnOnBy 140 = .ok (.iinc 5 1, 3) := by decide +kernel
theorem dX1_turnOnBy_143 : decode cX1_turnOnBy 143 = .ok (.goto (-73), 3) := by decide +kernel
theorem dX1_turnOnBy_146 : decode cX1_turnOnBy 146 = .ok (.iload_n 3, 1) := by decide +kernel
theorem dX1_turnOnBy_147 : decode cX1_turnOnBy 147 = .ok (.ireturn, 1) := by decide +kernel
theorem dX1_isPulled_0 : decode cX1_isPulled 0 = .ok (.aload_n 0, 1) := by decide +kernel
theorem dX1_isPulled_1 : decode cX1_isPulled 1 = .ok (.getfield 23, 3) := by decide +kernel
theorem dX1_isPulled_4 : decode cX1_isPulled 4 = .ok (.iload_n 1, 1) := by decide +kernel
theorem dX1_isPulled_5 : decode cX1_isPulled 5 = .ok (.invokevirtual 129, 3) := by decide +kernel
theorem dX1_isPulled_8 : decode cX1_isPulled 8 = .ok (.istore_n 2, 1) := by decide +kernel
theorem dX1_isPulled_9 : decode cX1_isPulled 9 = .ok (.iconst 0, 1) := by decide +kernel
theorem dX1_isPulled_10 : decode cX1_isPulled 10 = .ok (.istore_n 3, 1) := by decide +kernel
theorem dX1_isPulled_11 : decode cX1_isPulled 11 = .ok (.iload_n 3, 1) := by decide +kernel
theorem dX1_isPulled_12 : decode cX1_isPulled 12 = .ok (.bipush 6, 2) := by decide +kernel
theorem dX1_isPulled_14 : decode cX1_isPulled 14 = .ok (.if_icmp .ge 62, 3) := by decide +kernel
theorem dX1_isPulled_17 : decode cX1_isPulled 17 = .ok (.iconst 0, 1) := by decide +kernel
theorem dX1_isPulled_18 : decode cX1_isPulled 18 = .ok (.istore 4, 2) := by decide +kernel
theorem dX1_isPulled_20 : decode cX1_isPulled 20 = .ok (.iload 4, 2) := by decide +kernel
theorem dX1_isPulled_22 : decode cX1_isPulled 22 = .ok (.bipush 6, 2) := by decide +kernel
theorem dX1_isPulled_24 : decode cX1_isPulled 24 = .ok (.if_icmp .ge 46, 3) := by decide +kernel
theorem dX1_isPulled_27 : decode cX1_isPulled 27 = .ok (.iload_n 2, 1) := by decide +kernel
theorem dX1_isPulled_28 : decode cX1_isPulled 28 = .ok (.iload 4, 2) := by decide +kernel
theorem dX1_isPulled_30 : decode cX1_isPulled 30 = .ok (.invokestatic 60, 3) := by decide +kernel
theorem dX1_isPulled_33 : decode cX1_isPulled 33 = .ok (.ifCond .eq 31, 3) := by decide +kernel
theorem dX1_isPulled_36 : decode cX1_isPulled 36 = .ok (.iload_n 2, 1) := by decide +kernel
theorem dX1_isPulled_37 : decode cX1_isPulled 37 = .ok (.aload_n 0, 1) := by decide +kernel
theorem dX1_isPulled_38 : decode cX1_isPulled 38 = .ok (.getfield 23, 3) := by decide +kernel
theorem dX1_isPulled_41 : decode cX1_isPulled 41 = .ok (.aload_n 0, 1) := by decide +kernel
theorem dX1_isPulled_42 : decode cX1_isPulled 42 = .ok (.getfield 14, 3) := by decide +kernel
theorem dX1_isPulled_45 : decode cX1_isPulled 45 = .ok (.iload 4, 2) := by decide +kernel
theorem dX1_isPulled_47 : decode cX1_isPulled 47 = .ok (.invokevirtual 57, 3) := by decide +kernel
theorem dX1_isPulled_50 : decode cX1_isPulled 50 = .ok (.aload_n 0, 1) := by decide +kernel
theorem dX1_isPulled_51 : decode cX1_isPulled 51 = .ok (.getfield 20, 3) := by decide +kernel
theorem dX1_isPulled_54 : decode cX1_isPulled 54 = .ok (.iload 4, 2) := by decide +kernel
theorem dX1_isPulled_56 : decode cX1_isPulled 56 = .ok (.invokevirtual 57, 3) := by decide +kernel
theorem dX1_isPulled_59 : decode cX1_isPulled 59 = .ok (.invokevirtual 132, 3) := by decide +kernel
theorem dX1_isPulled_62 : decode cX1_isPulled 62 = .ok (.ior, 1) := by decide +kernel
theorem dX1_isPulled_63 : decode cX1_isPulled 63 = .ok (.istore_n 2, 1) := by decide +kernel
theorem dX1_isPulled_64 : decode cX1_isPulled 64 = .ok (.iinc 4 1, 3) := by decide +kernel
theorem dX1_isPulled_67 : decode cX1_isPulled 67 = .ok (.goto (-47), 3) := by decide +kernel
theorem dX1_isPulled_70 : decode cX1_isPulled 70 = .ok (.iinc 3 1, 3) := by decide +kernel
theorem dX1_isPulled_73 : decode cX1_isPulled 73 = .ok (.goto (-62), 3) := by decide +kernel
theorem dX1_isPulled_76 : decode cX1_isPulled 76 = .ok (.iconst 0, 1) := by decide +kernel
theorem dX1_isPulled_77 : decode cX1_isPulled 77 = .ok (.istore_n 3, 1) := by decide +kernel
theorem dX1_isPulled_78 : decode cX1_isPulled 78 = .ok (.iload_n 3, 1) := by decide +kernel
theorem dX1_isPulled_79 : decode cX1_isPulled 79 = .ok (.bipush 6, 2) := by decide +kernel
theorem dX1_isPulled_81 : decode cX1_isPulled 81 = .ok (.if_icmp .ge 31, 3) := by decide +kernel
theorem dX1_isPulled_84 : decode cX1_isPulled 84 = .ok (.aload_n 0, 1) := by decide +kernel
theorem dX1_isPulled_85 : decode cX1_isPulled 85 = .ok (.getfield 14, 3) := by decide +kernel
theorem dX1_isPulled_88 : decode cX1_isPulled 88 = .ok (.iload_n 3, 1) := by decide +kernel
theorem dX1_isPulled_89 : decode cX1_isPulled 89 = .ok (.invokevirtual 57, 3) := by decide +kernel
theorem dX1_isPulled_92 : decode cX1_isPulled 92 = .ok (.iconst (-1), 1) := by decide +kernel
theorem dX1_isPulled_93 : decode cX1_isPulled 93 = .ok (.if_icmp .eq 13, 3) := by decide +kernel
theorem dX1_isPulled_96 : decode cX1_isPulled 96 = .ok (.iload_n 2, 1) := by decide +kernel
theorem dX1_isPulled_97 : decode cX1_isPulled 97 = .ok (.iload_n 3, 1) := by decide +kernel
theorem dX1_isPulled_98 : decode cX1_isPulled 98 = .ok (.invokestatic 60, 3) := by decide +kernel
theorem dX1_isPulled_101 : decode cX1_isPulled 101 = .ok (.ifCond .ne 5, 3) := by decide +kernel
theorem dX1_isPulled_104 : decode cX1_isPulled 104 = .ok (.iconst 0, 1) := by decide +kernel
theorem dX1_isPulled_105 : decode cX1_isPulled 105 = .ok (.ireturn, 1) := by decide +kernel
theorem dX1_isPulled_106 : decode cX1_isPulled 106 = .ok (.iinc 3 1, 3) := by decide +kernel
theorem dX1_isPulled_109 : decode cX1_isPulled 109 = .ok (.goto (-31), 3) := by decide +kernel
theorem dX1_isPulled_112 : decode cX1_isPulled 112 = .ok (.iconst 1, 1) := by decide +kernel
theorem dX1_isPulled_113 : decode cX1_isPulled 113 = .ok (.ireturn, 1) := by decide +kernel
theorem dX2_init_0 : decode cX2_init 0 = .ok (.aload_n 0, 1) := by decide +kernel
theorem dX2_init_1 : decode cX2_init 1 = .ok (.invokespecial 3, 3) := by decide +kernel
theorem dX2_init_4 : decode cX2_init 4 = .ok (.aload_n 0, 1) := by decide +kernel
theorem dX2_init_5 : decode cX2_init 5 = .ok (.new 9, 3) := by decide +kernel
theorem dX2_init_8 : decode cX2_init 8 = .ok (.dup, 1) := by decide +kernel
theorem dX2_init_9 : decode cX2_init 9 = .ok (.bipush 6, 2) := by decide +kernel
theorem dX2_init_11 : decode cX2_init 11 = .ok (.iconst (-1), 1) := by decide +kernel
theorem dX2_init_12 : decode cX2_init 12 = .ok (.invokespecial 11, 3) := by decide +kernel
theorem dX2_init_15 : decode cX2_init 15 = .ok (.putfield 14, 3) := by decide +kernel
theorem dX2_init_18 : decode cX2_init 18 = .ok (.aload_n 0, 1) := by decide +kernel
theorem dX2_init_19 : decode cX2_init 19 = .ok (.new 9, 3) := by decide +kernel
theorem dX2_init_22 : decode cX2_init 22 = .ok (.dup, 1) := by decide +kernel
theorem dX2_init_23 : decode cX2_init 23 = .ok (.bipush 6, 2) := by decide +kernel
theorem dX2_init_25 : decode cX2_init 25 = .ok (.iconst (-1), 1) := by decide +kernel
theorem dX2_init_26 : decode cX2_init 26 = .ok (.invokespecial 11, 3) := by decide +kernel
theorem dX2_init_29 : decode cX2_init 29 = .ok (.putfield 20, 3) := by decide +kernel
theorem dX2_init_32 : decode cX2_init 32 = .ok (.aload_n 0, 1) := by decide +kernel
theorem dX2_init_33 : decode cX2_init 33 = .ok (.new 9, 3) := by decide +kernel
theorem dX2_init_36 : decode cX2_init 36 = .ok (.dup, 1) := by decide +kernel
theorem dX2_init_37 : decode cX2_init 37 = .ok (.bipush 6, 2) := by decide +kernel
theorem dX2_init_39 : decode cX2_init 39 = .ok (.iconst (-1), 1) := by decide +kernel
theorem dX2_init_40 : decode cX2_init 40 = .ok (.invokespecial 11, 3) := by decide +kernel
theorem dX2_init_43 : decode cX2_init 43 = .ok (.putfield 23, 3) := by decide +kernel
theorem dX2_init_46 : decode cX2_init 46 = .ok (.aload_n 0, 1) := by decide +kernel
theorem dX2_init_47 : decode cX2_init 47 = .ok (.new 9, 3) := by decide +kernel
theorem dX2_init_50 : decode cX2_init 50 = .ok (.dup, 1) := by decide +kernel
theorem dX2_init_51 : decode cX2_init 51 = .ok (.bipush 6, 2) := by decide +kernel
theorem dX2_init_53 : decode cX2_init 53 = .ok (.iconst 0, 1) := by decide +kernel
theorem dX2_init_54 : decode cX2_init 54 = .ok (.invokespecial 11, 3) := by decide +kernel
theorem dX2_init_57 : decode cX2_init 57 = .ok (.putfield 26, 3) := by decide +kernel
theorem dX2_init_60 : decode cX2_init 60 = .ok (.return_, 1) := by decide +kernel
theorem dX2_isFull_0 : decode cX2_isFull 0 = .ok (.aload_n 0, 1) := by decide +kernel
theorem dX2_isFull_1 : decode cX2_isFull 1 = .ok (.getfield 29, 3) := by decide +kernel
theorem dX2_isFull_4 : decode cX2_isFull 4 = .ok (.bipush 6, 2) := by decide +kernel
theorem dX2_isFull_6 : decode cX2_isFull 6 = .ok (.if_icmp .lt 7, 3) := by decide +kernel
theorem dX2_isFull_9 : decode cX2_isFull 9 = .ok (.iconst 1, 1) := by decide +kernel
theorem dX2_isFull_10 : decode cX2_isFull 10 = .ok (.goto 4, 3) := by decide +kernel
theorem dX2_isFull_13 : decode cX2_isFull 13 = .ok (.iconst 0, 1) := by decide +kernel
theorem dX2_isFull_14 : decode cX2_isFull 14 = .ok (.ireturn, 1) := by decide +kernel
theorem dX2_add_0 : decode cX2_add 0 = .ok (.aload_n 0, 1) := by decide +kernel
theorem dX2_add_1 : decode cX2_add 1 = .ok (.getfield 29, 3) := by decide +kernel
theorem dX2_add_4 : decode cX2_add 4 = .ok (.istore 5, 2) := by decide +kernel
theorem dX2_add_6 : decode cX2_add 6 = .ok (.aload_n 0, 1) := by decide +kernel
theorem dX2_add_7 : decode cX2_add 7 = .ok (.getfield 14, 3) := by decide +kernel
theorem dX2_add_10 : decode cX2_add 10 = .ok (.iload 5, 2) := by decide +kernel
theorem dX2_add_12 : decode cX2_add 12 = .ok (.iload_n 1, 1) := by decide +kernel
theorem dX2_add_13 : decode cX2_add 13 = .ok (.invokevirtual 33, 3) := by decide +kernel
theorem dX2_add_16 : decode cX2_add 16 = .ok (.aload_n 0, 1) := by decide +kernel
theorem dX2_add_17 : decode cX2_add 17 = .ok (.getfield 20, 3) := by decide +kernel
theorem dX2_add_20 : decode cX2_add 20 = .ok (.iload 5, 2) := by decide +kernel
theorem dX2_add_22 : decode cX2_add 22 = .ok (.iload_n 2, 1) := by decide +kernel
theorem dX2_add_23 : decode cX2_add 23 = .ok (.invokevirtual 33, 3) := by decide +kernel
theorem dX2_add_26 : decode cX2_add 26 = .ok (.aload_n 0, 1) := by decide +kernel
theorem dX2_add_27 : decode cX2_add 27 = .ok (.getfield 23, 3) := by decide +kernel
theorem dX2_add_30 : decode cX2_add 30 = .ok (.iload 5, 2) := by decide +kernel
theorem dX2_add_32 : decode cX2_add 32 = .ok (.iload_n 3, 1) := by decide +kernel
theorem dX2_add_33 : decode cX2_add 33 = .ok (.invokevirtual 33, 3) := by decide +kernel
theorem dX2_add_36 : decode cX2_add 36 = .ok (.aload_n 0, 1) := by decide +kernel
theorem dX2_add_37 : decode cX2_add 37 = .ok (.getfield 26, 3) := by decide +kernel
theorem dX2_add_40 : decode cX2_add 40 = .ok (.iload 5, 2) := by decide +kernel
theorem dX2_add_42 : decode cX2_add 42 = .ok (.iload 4, 2) := by decide +kernel
theorem dX2_add_44 : decode cX2_add 44 = .ok (.invokevirtual 33, 3) := by decide +kernel
theorem dX2_add_47 : decode cX2_add 47 = .ok (.aload_n 0, 1) := by decide +kernel
theorem dX2_add_48 : decode cX2_add 48 = .ok (.dup, 1) := by decide +kernel
theorem dX2_add_49 : decode cX2_add 49 = .ok (.getfield 29, 3) := by decide +kernel
theorem dX2_add_52 : decode cX2_add 52 = .ok (.iconst 1, 1) := by decide +kernel
theorem dX2_add_53 : decode cX2_add 53 = .ok (.iadd, 1) := by decide +kernel
theorem dX2_add_54 : decode cX2_add 54 = .ok (.putfield 29, 3) := by decide +kernel
theorem dX2_add_57 : decode cX2_add 57 = .ok (.iload 5, 2) := by decide +kernel
theorem dX2_add_59 : decode cX2_add 59 = .ok (.ireturn, 1) := by decide +kernel
theorem dX2_ofWorkspaces_0 : decode cX2_ofWorkspaces 0 = .ok (.iconst 0, 1) := by decide +kernel
theorem dX2_ofWorkspaces_1 : decode cX2_ofWorkspaces 1 = .ok (.istore_n 2, 1) := by decide +kernel
theorem dX2_ofWorkspaces_2 : decode cX2_ofWorkspaces 2 = .ok (.iconst 0, 1) := by decide +kernel
theorem dX2_ofWorkspaces_3 : decode cX2_ofWorkspaces 3 = .ok (.istore_n 3, 1) := by decide +kernel
theorem dX2_ofWorkspaces_4 : decode cX2_ofWorkspaces 4 = .ok (.iload_n 3, 1) := by decide +kernel
theorem dX2_ofWorkspaces_5 : decode cX2_ofWorkspaces 5 = .ok (.aload_n 0, 1) := by decide +kernel
theorem dX2_ofWorkspaces_6 : decode cX2_ofWorkspaces 6 = .ok (.getfield 29, 3) := by decide +kernel
theorem dX2_ofWorkspaces_9 : decode cX2_ofWorkspaces 9 = .ok (.if_icmp .ge 30, 3) := by decide +kernel
theorem dX2_ofWorkspaces_12 : decode cX2_ofWorkspaces 12 = .ok (.iload_n 1, 1) := by decide +kernel
theorem dX2_ofWorkspaces_13 : decode cX2_ofWorkspaces 13 = .ok (.aload_n 0, 1) := by decide +kernel
theorem dX2_ofWorkspaces_14 : decode cX2_ofWorkspaces 14 = .ok (.getfield 14, 3) := by decide +kernel
theorem dX2_ofWorkspaces_17 : decode cX2_ofWorkspaces 17 = .ok (.iload_n 3, 1) := by decide +kernel
theorem dX2_ofWorkspaces_18 : decode cX2_ofWorkspaces 18 = .ok (.invokevirtual 36, 3) := by decide +kernel
theorem dX2_ofWorkspaces_21 : decode cX2_ofWorkspaces 21 = .ok (.invokestatic 40, 3) := by decide +kernel
theorem dX2_ofWorkspaces_24 : decode cX2_ofWorkspaces 24 = .ok (.ifCond .eq 9, 3) := by decide +kernel
theorem dX2_ofWorkspaces_27 : decode cX2_ofWorkspaces 27 = .ok (.iload_n 2, 1) := by decide +kernel
theorem dX2_ofWorkspaces_28 : decode cX2_ofWorkspaces 28 = .ok (.iconst 1, 1) := by decide +kernel
theorem dX2_ofWorkspaces_29 : decode cX2_ofWorkspaces 29 = .ok (.iload_n 3, 1) := by decide +kernel
theorem dX2_ofWorkspaces_30 : decode cX2_ofWorkspaces 30 = .ok (.ishl, 1) := by decide +kernel
theorem dX2_ofWorkspaces_31 : decode cX2_ofWorkspaces 31 = .ok (.ior, 1) := by decide +kernel
theorem dX2_ofWorkspaces_32 : decode cX2_ofWorkspaces 32 = .ok (.istore_n 2, 1) := by decide +kernel
theorem dX2_ofWorkspaces_33 : decode cX2_ofWorkspaces 33 = .ok (.iinc 3 1, 3) := by decide +kernel
theorem dX2_ofWorkspaces_36 : decode cX2_ofWorkspaces 36 = .ok (.goto (-32), 3) := by decide +kernel
theorem dX2_ofWorkspaces_39 : decode cX2_ofWorkspaces 39 = .ok (.iload_n 2, 1) := by decide +kernel
theorem dX2_ofWorkspaces_40 : decode cX2_ofWorkspaces 40 = .ok (.ireturn, 1) := by decide +kernel
theorem dX3_init_0 : decode cX3_init 0 = .ok (.aload_n 0, 1) := by decide +kernel
theorem dX3_init_1 : decode cX3_init 1 = .ok (.invokespecial 3, 3) := by decide +kernel
theorem dX3_init_4 : decode cX3_init 4 = .ok (.aload_n 0, 1) := by decide +kernel
theorem dX3_init_5 : decode cX3_init 5 = .ok (.new 9, 3) := by decide +kernel
theorem dX3_init_8 : decode cX3_init 8 = .ok (.dup, 1) := by decide +kernel
theorem dX3_init_9 : decode cX3_init 9 = .ok (.bipush 6, 2) := by decide +kernel
theorem dX3_init_11 : decode cX3_init 11 = .ok (.iconst (-1), 1) := by decide +kernel
theorem dX3_init_12 : decode cX3_init 12 = .ok (.invokespecial 11, 3) := by decide +kernel
theorem dX3_init_15 : decode cX3_init 15 = .ok (.putfield 14, 3) := by decide +kernel
theorem dX3_init_18 : decode cX3_init 18 = .ok (.aload_n 0, 1) := by decide +kernel
theorem dX3_init_19 : decode cX3_init 19 = .ok (.new 9, 3) := by decide +kernel
theorem dX3_init_22 : decode cX3_init 22 = .ok (.dup, 1) := by decide +kernel
theorem dX3_init_23 : decode cX3_init 23 = .ok (.bipush 6, 2) := by decide +kernel
theorem dX3_init_25 : decode cX3_init 25 = .ok (.iconst (-1), 1) := by decide +kernel
theorem dX3_init_26 : decode cX3_init 26 = .ok (.invokespecial 11, 3) := by decide +kernel
theorem dX3_init_29 : decode cX3_init 29 = .ok (.putfield 20, 3) := by decide +kernel
theorem dX3_init_32 : decode cX3_init 32 = .ok (.return_, 1) := by decide +kernel
theorem dX3_differs_0 : decode cX3_differs 0 = .ok (.aload_n 0, 1) := by decide +kernel
theorem dX3_differs_1 : decode cX3_differs 1 = .ok (.getfield 14, 3) := by decide +kernel
theorem dX3_differs_4 : decode cX3_differs 4 = .ok (.iload_n 1, 1) := by decide +kernel
theorem dX3_differs_5 : decode cX3_differs 5 = .ok (.invokevirtual 23, 3) := by decide +kernel
theorem dX3_differs_8 : decode cX3_differs 8 = .ok (.iload_n 2, 1) := by decide +kernel
theorem dX3_differs_9 : decode cX3_differs 9 = .ok (.if_icmp .ne 20, 3) := by decide +kernel
theorem dX3_differs_12 : decode cX3_differs 12 = .ok (.iload_n 2, 1) := by decide +kernel
theorem dX3_differs_13 : decode cX3_differs 13 = .ok (.iconst (-1), 1) := by decide +kernel
theorem dX3_differs_14 : decode cX3_differs 14 = .ok (.if_icmp .eq 19, 3) := by decide +kernel
theorem dX3_differs_17 : decode cX3_differs 17 = .ok (.aload_n 0, 1) := by decide +kernel
theorem dX3_differs_18 : decode cX3_differs 18 = .ok (.getfield 20, 3) := by decide +kernel
theorem dX3_differs_21 : decode cX3_differs 21 = .ok (.iload_n 1, 1) := by decide +kernel
theorem dX3_differs_22 : decode cX3_differs 22 = .ok (.invokevirtual 23, 3) := by decide +kernel
theorem dX3_differs_25 : decode cX3_differs 25 = .ok (.iload_n 3, 1) := by decide +kernel
theorem dX3_differs_26 : decode cX3_differs 26 = .ok (.if_icmp .eq 7, 3) := by decide +kernel
theorem dX3_differs_29 : decode cX3_differs 29 = .ok (.iconst 1, 1) := by decide +kernel
theorem dX3_differs_30 : decode cX3_differs 30 = .ok (.goto 4, 3) := by decide +kernel
theorem dX3_differs_33 : decode cX3_differs 33 = .ok (.iconst 0, 1) := by decide +kernel
theorem dX3_differs_34 : decode cX3_differs 34 = .ok (.ireturn, 1) := by decide +kernel
theorem dX3_put_0 : decode cX3_put 0 = .ok (.aload_n 0, 1) := by decide +kernel
theorem dX3_put_1 : decode cX3_put 1 = .ok (.getfield 14, 3) := by decide +kernel
theorem dX3_put_4 : decode cX3_put 4 = .ok (.iload_n 1, 1) := by decide +kernel
theorem dX3_put_5 : decode cX3_put 5 = .ok (.iload_n 2, 1) := by decide +kernel
theorem dX3_put_6 : decode cX3_put 6 = .ok (.invokevirtual 27, 3) := by decide +kernel
theorem dX3_put_9 : decode cX3_put 9 = .ok (.aload_n 0, 1) := by decide +kernel
theorem dX3_put_10 : decode cX3_put 10 = .ok (.getfield 20, 3) := by decide +kernel
theorem dX3_put_13 : decode cX3_put 13 = .ok (.iload_n 1, 1) := by decide +kernel
theorem dX3_put_14 : decode cX3_put 14 = .ok (.iload_n 3, 1) := by decide +kernel
theorem dX3_put_15 : decode cX3_put 15 = .ok (.invokevirtual 27, 3) := by decide +kernel
theorem dX3_put_18 : decode cX3_put 18 = .ok (.return_, 1) := by decide +kernel
theorem dX4_init_0 : decode cX4_init 0 = .ok (.aload_n 0, 1) := by decide +kernel
theorem dX4_init_1 : decode cX4_init 1 = .ok (.invokespecial 3, 3) := by decide +kernel
theorem dX4_init_4 : decode cX4_init 4 = .ok (.aload_n 0, 1) := by decide +kernel
theorem dX4_init_5 : decode cX4_init 5 = .ok (.new 9, 3) := by decide +kernel
theorem dX4_init_8 : decode cX4_init 8 = .ok (.dup, 1) := by decide +kernel
theorem dX4_init_9 : decode cX4_init 9 = .ok (.bipush 120, 2) := by decide +kernel
theorem dX4_init_11 : decode cX4_init 11 = .ok (.iconst (-1), 1) := by decide +kernel
theorem dX4_init_12 : decode cX4_init 12 = .ok (.invokespecial 11, 3) := by decide +kernel
theorem dX4_init_15 : decode cX4_init 15 = .ok (.putfield 14, 3) := by decide +kernel
theorem dX4_init_18 : decode cX4_init 18 = .ok (.aload_n 0, 1) := by decide +kernel
theorem dX4_init_19 : decode cX4_init 19 = .ok (.new 9, 3) := by decide +kernel
theorem dX4_init_22 : decode cX4_init 22 = .ok (.dup, 1) := by decide +kernel
theorem dX4_init_23 : decode cX4_init 23 = .ok (.bipush 120, 2) := by decide +kernel
theorem dX4_init_25 : decode cX4_init 25 = .ok (.iconst (-1), 1) := by decide +kernel
theorem dX4_init_26 : decode cX4_init 26 = .ok (.invokespecial 11, 3) := by decide +kernel
theorem dX4_init_29 : decode cX4_init 29 = .ok (.putfield 20, 3) := by decide +kernel
theorem dX4_init_32 : decode cX4_init 32 = .ok (.aload_n 0, 1) := by decide +kernel
theorem dX4_init_33 : decode cX4_init 33 = .ok (.new 9, 3) := by decide +kernel
theorem dX4_init_36 : decode cX4_init 36 = .ok (.dup, 1) := by decide +kernel
theorem dX4_init_37 : decode cX4_init 37 = .ok (.bipush 120, 2) := by decide +kernel
theorem dX4_init_39 : decode cX4_init 39 = .ok (.iconst 0, 1) := by decide +kernel
theorem dX4_init_40 : decode cX4_init 40 = .ok (.invokespecial 11, 3) := by decide +kernel
theorem dX4_init_43 : decode cX4_init 43 = .ok (.putfield 23, 3) := by decide +kernel
theorem dX4_init_46 : decode cX4_init 46 = .ok (.aload_n 0, 1) := by decide +kernel
theorem dX4_init_47 : decode cX4_init 47 = .ok (.new 9, 3) := by decide +kernel
theorem dX4_init_50 : decode cX4_init 50 = .ok (.dup, 1) := by decide +kernel
theorem dX4_init_51 : decode cX4_init 51 = .ok (.bipush 120, 2) := by decide +kernel
theorem dX4_init_53 : decode cX4_init 53 = .ok (.iconst (-1), 1) := by decide +kernel
theorem dX4_init_54 : decode cX4_init 54 = .ok (.invokespecial 11, 3) := by decide +kernel
theorem dX4_init_57 : decode cX4_init 57 = .ok (.putfield 26, 3) := by decide +kernel
theorem dX4_init_60 : decode cX4_init 60 = .ok (.aload_n 0, 1) := by decide +kernel
theorem dX4_init_61 : decode cX4_init 61 = .ok (.new 9, 3) := by decide +kernel
theorem dX4_init_64 : decode cX4_init 64 = .ok (.dup, 1) := by decide +kernel
theorem dX4_init_65 : decode cX4_init 65 = .ok (.bipush 120, 2) := by decide +kernel
theorem dX4_init_67 : decode cX4_init 67 = .ok (.iconst 0, 1) := by decide +kernel
theorem dX4_init_68 : decode cX4_init 68 = .ok (.invokespecial 11, 3) := by decide +kernel
theorem dX4_init_71 : decode cX4_init 71 = .ok (.putfield 29, 3) := by decide +kernel
theorem dX4_init_74 : decode cX4_init 74 = .ok (.aload_n 0, 1) := by decide +kernel
theorem dX4_init_75 : decode cX4_init 75 = .ok (.new 9, 3) := by decide +kernel
theorem dX4_init_78 : decode cX4_init 78 = .ok (.dup, 1) := by decide +kernel
theorem dX4_init_79 : decode cX4_init 79 = .ok (.bipush 120, 2) := by decide +kernel
theorem dX4_init_81 : decode cX4_init 81 = .ok (.iconst 0, 1) := by decide +kernel
theorem dX4_init_82 : decode cX4_init 82 = .ok (.invokespecial 11, 3) := by decide +kernel
theorem dX4_init_85 : decode cX4_init 85 = .ok (.putfield 32, 3) := by decide +kernel
theorem dX4_init_88 : decode cX4_init 88 = .ok (.aload_n 0, 1) := by decide +kernel
theorem dX4_init_89 : decode cX4_init 89 = .ok (.new 9, 3) := by decide +kernel
theorem dX4_init_92 : decode cX4_init 92 = .ok (.dup, 1) := by decide +kernel
theorem dX4_init_93 : decode cX4_init 93 = .ok (.bipush 24, 2) := by decide +kernel
theorem dX4_init_95 : decode cX4_init 95 = .ok (.iconst 0, 1) := by decide +kernel
theorem dX4_init_96 : decode cX4_init 96 = .ok (.invokespecial 11, 3) := by decide +kernel
theorem dX4_init_99 : decode cX4_init 99 = .ok (.putfield 35, 3) := by decide +kernel
theorem dX4_init_102 : decode cX4_init 102 = .ok (.return_, 1) := by decide +kernel
theorem dX4_isFull_0 : decode cX4_isFull 0 = .ok (.aload_n 0, 1) := by decide +kernel
theorem dX4_isFull_1 : decode cX4_isFull 1 = .ok (.getfield 35, 3) := by decide +kernel
theorem dX4_isFull_4 : decode cX4_isFull 4 = .ok (.iload_n 1, 1) := by decide +kernel
theorem dX4_isFull_5 : decode cX4_isFull 5 = .ok (.invokevirtual 38, 3) := by decide +kernel
theorem dX4_isFull_8 : decode cX4_isFull 8 = .ok (.iconst 5, 1) := by decide +kernel
theorem dX4_isFull_9 : decode cX4_isFull 9 = .ok (.if_icmp .lt 7, 3) := by decide +kernel
theorem dX4_isFull_12 : decode cX4_isFull 12 = .ok (.iconst 1, 1) := by decide +kernel
theorem dX4_isFull_13 : decode cX4_isFull 13 = .ok (.goto 4, 3) := by decide +kernel
theorem dX4_isFull_16 : decode cX4_isFull 16 = .ok (.iconst 0, 1) := by decide +kernel
theorem dX4_isFull_17 : decode cX4_isFull 17 = .ok (.ireturn, 1) := by decide +kernel
theorem dX4_add_0 : decode cX4_add 0 = .ok (.aload_n 0, 1) := by decide +kernel
theorem dX4_add_1 : decode cX4_add 1 = .ok (.iload_n 1, 1) := by decide +kernel
theorem dX4_add_2 : decode cX4_add 2 = .ok (.invokevirtual 42, 3) := by decide +kernel
theorem dX4_add_5 : decode cX4_add 5 = .ok (.istore 8, 2) := by decide +kernel
theorem dX4_add_7 : decode cX4_add 7 = .ok (.aload_n 0, 1) := by decide +kernel
theorem dX4_add_8 : decode cX4_add 8 = .ok (.getfield 14, 3) := by decide +kernel
theorem dX4_add_11 : decode cX4_add 11 = .ok (.iload 8, 2) := by decide +kernel
theorem dX4_add_13 : decode cX4_add 13 = .ok (.iload_n 2, 1) := by decide +kernel
theorem dX4_add_14 : decode cX4_add 14 = .ok (.invokevirtual 45, 3) := by decide +kernel
theorem dX4_add_17 : decode cX4_add 17 = .ok (.aload_n 0, 1) := by decide +kernel
theorem dX4_add_18 : decode cX4_add 18 = .ok (.getfield 20, 3) := by decide +kernel
theorem dX4_add_21 : decode cX4_add 21 = .ok (.iload 8, 2) := by decide +kernel
theorem dX4_add_23 : decode cX4_add 23 = .ok (.iload_n 3, 1) := by decide +kernel
theorem dX4_add_24 : decode cX4_add 24 = .ok (.invokevirtual 45, 3) := by decide +kernel
theorem dX4_add_27 : decode cX4_add 27 = .ok (.aload_n 0, 1) := by decide +kernel
theorem dX4_add_28 : decode cX4_add 28 = .ok (.getfield 23, 3) := by decide +kernel
theorem dX4_add_31 : decode cX4_add 31 = .ok (.iload 8, 2) := by decide +kernel
theorem dX4_add_33 : decode cX4_add 33 = .ok (.iload 4, 2) := by decide +kernel
theorem dX4_add_35 : decode cX4_add 35 = .ok (.invokevirtual 45, 3) := by decide +kernel
theorem dX4_add_38 : decode cX4_add 38 = .ok (.aload_n 0, 1) := by decide +kernel
theorem dX4_add_39 : decode cX4_add 39 = .ok (.getfield 26, 3) := by decide +kernel
theorem dX4_add_42 : decode cX4_add 42 = .ok (.iload 8, 2) := by decide +kernel
theorem dX4_add_44 : decode cX4_add 44 = .ok (.iload 5, 2) := by decide +kernel
theorem dX4_add_46 : decode cX4_add 46 = .ok (.invokevirtual 45, 3) := by decide +kernel
theorem dX4_add_49 : decode cX4_add 49 = .ok (.aload_n 0, 1) := by decide +kernel
theorem dX4_add_50 : decode cX4_add 50 = .ok (.getfield 29, 3) := by decide +kernel
theorem dX4_add_53 : decode cX4_add 53 = .ok (.iload 8, 2) := by decide +kernel
theorem dX4_add_55 : decode cX4_add 55 = .ok (.iload 6, 2) := by decide +kernel
theorem dX4_add_57 : decode cX4_add 57 = .ok (.invokevirtual 45, 3) := by decide +kernel
theorem dX4_add_60 : decode cX4_add 60 = .ok (.aload_n 0, 1) := by decide +kernel
theorem dX4_add_61 : decode cX4_add 61 = .ok (.getfield 32, 3) := by decide +kernel
theorem dX4_add_64 : decode cX4_add 64 = .ok (.iload 8, 2) := by decide +kernel
theorem dX4_add_66 : decode cX4_add 66 = .ok (.iload 7, 2) := by decide +kernel
theorem dX4_add_68 : decode cX4_add 68 = .ok (.invokevirtual 45, 3) := by decide +kernel
theorem dX4_add_71 : decode cX4_add 71 = .ok (.aload_n 0, 1) := by decide +kernel
theorem dX4_add_72 : decode cX4_add 72 = .ok (.getfield 35, 3) := by decide +kernel
theorem dX4_add_75 : decode cX4_add 75 = .ok (.iload_n 1, 1) := by decide +kernel
theorem dX4_add_76 : decode cX4_add 76 = .ok (.aload_n 0, 1) := by decide +kernel
theorem dX4_add_77 : decode cX4_add 77 = .ok (.getfield 35, 3) := by decide +kernel
theorem dX4_add_80 : decode cX4_add 80 = .ok (.iload_n 1, 1) := by decide +kernel
theorem dX4_add_81 : decode cX4_add 81 = .ok (.invokevirtual 38, 3) := by decide +kernel
theorem dX4_add_84 : decode cX4_add 84 = .ok (.iconst 1, 1) := by decide +kernel
theorem dX4_add_85 : decode cX4_add 85 = .ok (.iadd, 1) := by decide +kernel
theorem dX4_add_86 : decode cX4_add 86 = .ok (.invokevirtual 45, 3) := by decide +kernel
theorem dX4_add_89 : decode cX4_add 89 = .ok (.aload_n 0, 1) := by decide +kernel
theorem dX4_add_90 : decode cX4_add 90 = .ok (.getfield 35, 3) := by decide +kernel
theorem dX4_add_93 : decode cX4_add 93 = .ok (.iload_n 1, 1) := by decide +kernel
theorem dX4_add_94 : decode cX4_add 94 = .ok (.invokevirtual 38, 3) := by decide +kernel
theorem dX4_add_97 : decode cX4_add 97 = .ok (.ireturn, 1) := by decide +kernel
theorem dX4_first_0 : decode cX4_first 0 = .ok (.iload_n 1, 1) := by decide +kernel
theorem dX4_first_1 : decode cX4_first 1 = .ok (.iconst 5, 1) := by decide +kernel
theorem dX4_first_2 : decode cX4_first 2 = .ok (.imul, 1) := by decide +kernel
theorem dX4_first_3 : decode cX4_first 3 = .ok (.ireturn, 1) := by decide +kernel
theorem dX4_end_0 : decode cX4_end 0 = .ok (.iload_n 1, 1) := by decide +kernel
theorem dX4_end_1 : decode cX4_end 1 = .ok (.iconst 5, 1) := by decide +kernel
theorem dX4_end_2 : decode cX4_end 2 = .ok (.imul, 1) := by decide +kernel
theorem dX4_end_3 : decode cX4_end 3 = .ok (.aload_n 0, 1) := by decide +kernel
theorem dX4_end_4 : decode cX4_end 4 = .ok (.getfield 35, 3) := by decide +kernel
theorem dX4_end_7 : decode cX4_end 7 = .ok (.iload_n 1, 1) := by decide +kernel
theorem dX4_end_8 : decode cX4_end 8 = .ok (.invokevirtual 38, 3) := by decide +kernel
theorem dX4_end_11 : decode cX4_end 11 = .ok (.iadd, 1) := by decide +kernel
theorem dX4_end_12 : decode cX4_end 12 = .ok (.ireturn, 1) := by decide +kernel
theorem dX5_init_0 : decode cX5_init 0 = .ok (.aload_n 0, 1) := by decide +kernel
theorem dX5_init_1 : decode cX5_init 1 = .ok (.invokespecial 3, 3) := by decide +kernel
theorem dX5_init_4 : decode cX5_init 4 = .ok (.aload_n 0, 1) := by decide +kernel
theorem dX5_init_5 : decode cX5_init 5 = .ok (.aload_n 1, 1) := by decide +kernel
theorem dX5_init_6 : decode cX5_init 6 = .ok (.putfield 9, 3) := by decide +kernel
theorem dX5_init_9 : decode cX5_init 9 = .ok (.return_, 1) := by decide +kernel
theorem dX5_demands_0 : decode cX5_demands 0 = .ok (.aload_n 0, 1) := by decide +kernel
theorem dX5_demands_1 : decode cX5_demands 1 = .ok (.getfield 9, 3) := by decide +kernel
theorem dX5_demands_4 : decode cX5_demands 4 = .ok (.getfield 15, 3) := by decide +kernel
theorem dX5_demands_7 : decode cX5_demands 7 = .ok (.aload_n 0, 1) := by decide +kernel
theorem dX5_demands_8 : decode cX5_demands 8 = .ok (.getfield 21, 3) := by decide +kernel
theorem dX5_demands_11 : decode cX5_demands 11 = .ok (.invokevirtual 25, 3) := by decide +kernel
theorem dX5_demands_14 : decode cX5_demands 14 = .ok (.ireturn, 1) := by decide +kernel
theorem dX5_changes_0 : decode cX5_changes 0 = .ok (.iconst 0, 1) := by decide +kernel
theorem dX5_changes_1 : decode cX5_changes 1 = .ok (.istore_n 3, 1) := by decide +kernel
theorem dX5_changes_2 : decode cX5_changes 2 = .ok (.iconst 0, 1) := by decide +kernel
theorem dX5_changes_3 : decode cX5_changes 3 = .ok (.istore 4, 2) := by decide +kernel
theorem dX5_changes_5 : decode cX5_changes 5 = .ok (.iload 4, 2) := by decide +kernel
theorem dX5_changes_7 : decode cX5_changes 7 = .ok (.iload_n 2, 1) := by decide +kernel
theorem dX5_changes_8 : decode cX5_changes 8 = .ok (.if_icmp .gt 55, 3) := by decide +kernel
theorem dX5_changes_11 : decode cX5_changes 11 = .ok (.aload_n 0, 1) := by decide +kernel
theorem dX5_changes_12 : decode cX5_changes 12 = .ok (.getfield 9, 3) := by decide +kernel
theorem dX5_changes_15 : decode cX5_changes 15 = .ok (.getfield 31, 3) := by decide +kernel
theorem dX5_changes_18 : decode cX5_changes 18 = .ok (.iload 4, 2) := by decide +kernel
theorem dX5_changes_20 : decode cX5_changes 20 = .ok (.invokevirtual 35, 3) := by decide +kernel
theorem dX5_changes_23 : decode cX5_changes 23 = .ok (.istore 5, 2) := by decide +kernel
theorem dX5_changes_25 : decode cX5_changes 25 = .ok (.iload 5, 2) := by decide +kernel
theorem dX5_changes_27 : decode cX5_changes 27 = .ok (.iconst (-1), 1) := by decide +kernel
theorem dX5_changes_28 : decode cX5_changes 28 = .ok (.if_icmp .eq 29, 3) := by decide +kernel
theorem dX5_changes_31 : decode cX5_changes 31 = .ok (.aload_n 0, 1) := by decide +kernel
theorem dX5_changes_32 : decode cX5_changes 32 = .ok (.getfield 40, 3) := by decide +kernel
theorem dX5_changes_35 : decode cX5_changes 35 = .ok (.iload 4, 2) := by decide +kernel
theorem dX5_changes_37 : decode cX5_changes 37 = .ok (.invokestatic 43, 3) := by decide +kernel
theorem dX5_changes_40 : decode cX5_changes 40 = .ok (.ifCond .ne 17, 3) := by decide +kernel
theorem dX5_changes_43 : decode cX5_changes 43 = .ok (.aload_n 1, 1) := by decide +kernel
theorem dX5_changes_44 : decode cX5_changes 44 = .ok (.iload 4, 2) := by decide +kernel
theorem dX5_changes_46 : decode cX5_changes 46 = .ok (.invokevirtual 35, 3) := by decide +kernel
theorem dX5_changes_49 : decode cX5_changes 49 = .ok (.iload 5, 2) := by decide +kernel
theorem dX5_changes_51 : decode cX5_changes 51 = .ok (.if_icmp .eq 6, 3) := by decide +kernel
theorem dX5_changes_54 : decode cX5_changes 54 = .ok (.iinc 3 1, 3) := by decide +kernel
theorem dX5_changes_57 : decode cX5_changes 57 = .ok (.iinc 4 1, 3) := by decide +kernel
theorem dX5_changes_60 : decode cX5_changes 60 = .ok (.goto (-55), 3) := by decide +kernel
theorem dX5_changes_63 : decode cX5_changes 63 = .ok (.iload_n 3, 1) := by decide +kernel
theorem dX5_changes_64 : decode cX5_changes 64 = .ok (.ireturn, 1) := by decide +kernel
theorem dX5_worth_0 : decode cX5_worth 0 = .ok (.iload_n 2, 1) := by decide +kernel
theorem dX5_worth_1 : decode cX5_worth 1 = .ok (.iconst (-1), 1) := by decide +kernel
theorem dX5_worth_2 : decode cX5_worth 2 = .ok (.if_icmp .eq 22, 3) := by decide +kernel
theorem dX5_worth_5 : decode cX5_worth 5 = .ok (.aload_n 0, 1) := by decide +kernel
theorem dX5_worth_6 : decode cX5_worth 6 = .ok (.getfield 9, 3) := by decide +kernel
theorem dX5_worth_9 : decode cX5_worth 9 = .ok (.getfield 31, 3) := by decide +kernel
theorem dX5_worth_12 : decode cX5_worth 12 = .ok (.iload_n 1, 1) := by decide +kernel
theorem dX5_worth_13 : decode cX5_worth 13 = .ok (.invokevirtual 35, 3) := by decide +kernel
theorem dX5_worth_16 : decode cX5_worth 16 = .ok (.iload_n 2, 1) := by decide +kernel
theorem dX5_worth_17 : decode cX5_worth 17 = .ok (.if_icmp .ne 7, 3) := by decide +kernel
theorem dX5_worth_20 : decode cX5_worth 20 = .ok (.iconst 1, 1) := by decide +kernel
theorem dX5_worth_21 : decode cX5_worth 21 = .ok (.goto 4, 3) := by decide +kernel
theorem dX5_worth_24 : decode cX5_worth 24 = .ok (.iconst 0, 1) := by decide +kernel
theorem dX5_worth_25 : decode cX5_worth 25 = .ok (.istore_n 3, 1) := by decide +kernel
theorem dX5_worth_26 : decode cX5_worth 26 = .ok (.iload_n 3, 1) := by decide +kernel
theorem dX5_worth_27 : decode cX5_worth 27 = .ok (.ifCond .eq 17, 3) := by decide +kernel
theorem dX5_worth_30 : decode cX5_worth 30 = .ok (.aload_n 0, 1) := by decide +kernel
theorem dX5_worth_31 : decode cX5_worth 31 = .ok (.getfield 40, 3) := by decide +kernel
theorem dX5_worth_34 : decode cX5_worth 34 = .ok (.iload_n 1, 1) := by decide +kernel
theorem dX5_worth_35 : decode cX5_worth 35 = .ok (.invokestatic 43, 3) := by decide +kernel
theorem dX5_worth_38 : decode cX5_worth 38 = .ok (.ifCond .ne 6, 3) := by decide +kernel
theorem dX5_worth_41 : decode cX5_worth 41 = .ok (.ldc 47, 2) := by decide +kernel
theorem dX5_worth_43 : decode cX5_worth 43 = .ok (.ireturn, 1) := by decide +kernel
theorem dX5_worth_44 : decode cX5_worth 44 = .ok (.aload_n 0, 1) := by decide +kernel
theorem dX5_worth_45 : decode cX5_worth 45 = .ok (.getfield 9, 3) := by decide +kernel
theorem dX5_worth_48 : decode cX5_worth 48 = .ok (.getfield 48, 3) := by decide +kernel
theorem dX5_worth_51 : decode cX5_worth 51 = .ok (.getfield 52, 3) := by decide +kernel
theorem dX5_worth_54 : decode cX5_worth 54 = .ok (.iload_n 2, 1) := by decide +kernel
theorem dX5_worth_55 : decode cX5_worth 55 = .ok (.invokevirtual 35, 3) := by decide +kernel
theorem dX5_worth_58 : decode cX5_worth 58 = .ok (.ireturn, 1) := by decide +kernel
theorem dX6_init_0 : decode cX6_init 0 = .ok (.aload_n 0, 1) := by decide +kernel
theorem dX6_init_1 : decode cX6_init 1 = .ok (.invokespecial 3, 3) := by decide +kernel
theorem dX6_init_4 : decode cX6_init 4 = .ok (.aload_n 0, 1) := by decide +kernel
theorem dX6_init_5 : decode cX6_init 5 = .ok (.new 9, 3) := by decide +kernel
theorem dX6_init_8 : decode cX6_init 8 = .ok (.dup, 1) := by decide +kernel
theorem dX6_init_9 : decode cX6_init 9 = .ok (.bipush 30, 2) := by decide +kernel
theorem dX6_init_11 : decode cX6_init 11 = .ok (.iconst 3, 1) := by decide +kernel
theorem dX6_init_12 : decode cX6_init 12 = .ok (.invokespecial 11, 3) := by decide +kernel
theorem dX6_init_15 : decode cX6_init 15 = .ok (.putfield 14, 3) := by decide +kernel
theorem dX6_init_18 : decode cX6_init 18 = .ok (.aload_n 0, 1) := by decide +kernel
theorem dX6_init_19 : decode cX6_init 19 = .ok (.new 9, 3) := by decide +kernel
theorem dX6_init_22 : decode cX6_init 22 = .ok (.dup, 1) := by decide +kernel
theorem dX6_init_23 : decode cX6_init 23 = .ok (.bipush 30, 2) := by decide +kernel
theorem dX6_init_25 : decode cX6_init 25 = .ok (.iconst 0, 1) := by decide +kernel
theorem dX6_init_26 : decode cX6_init 26 = .ok (.invokespecial 11, 3) := by decide +kernel
theorem dX6_init_29 : decode cX6_init 29 = .ok (.putfield 20, 3) := by decide +kernel
theorem dX6_init_32 : decode cX6_init 32 = .ok (.aload_n 0, 1) := by decide +kernel
theorem dX6_init_33 : decode cX6_init 33 = .ok (.new 9, 3) := by decide +kernel
theorem dX6_init_36 : decode cX6_init 36 = .ok (.dup, 1) := by decide +kernel
theorem dX6_init_37 : decode cX6_init 37 = .ok (.bipush 30, 2) := by decide +kernel
theorem dX6_init_39 : decode cX6_init 39 = .ok (.iconst 0, 1) := by decide +kernel
theorem dX6_init_40 : decode cX6_init 40 = .ok (.invokespecial 11, 3) := by decide +kernel
theorem dX6_init_43 : decode cX6_init 43 = .ok (.putfield 23, 3) := by decide +kernel
theorem dX6_init_46 : decode cX6_init 46 = .ok (.aload_n 0, 1) := by decide +kernel
theorem dX6_init_47 : decode cX6_init 47 = .ok (.new 9, 3) := by decide +kernel
theorem dX6_init_50 : decode cX6_init 50 = .ok (.dup, 1) := by decide +kernel
theorem dX6_init_51 : decode cX6_init 51 = .ok (.bipush 30, 2) := by decide +kernel
theorem dX6_init_53 : decode cX6_init 53 = .ok (.iconst (-1), 1) := by decide +kernel
theorem dX6_init_54 : decode cX6_init 54 = .ok (.invokespecial 11, 3) := by decide +kernel
theorem dX6_init_57 : decode cX6_init 57 = .ok (.putfield 26, 3) := by decide +kernel
theorem dX6_init_60 : decode cX6_init 60 = .ok (.aload_n 0, 1) := by decide +kernel
theorem dX6_init_61 : decode cX6_init 61 = .ok (.new 9, 3) := by decide +kernel
theorem dX6_init_64 : decode cX6_init 64 = .ok (.dup, 1) := by decide +kernel
theorem dX6_init_65 : decode cX6_init 65 = .ok (.bipush 30, 2) := by decide +kernel
theorem dX6_init_67 : decode cX6_init 67 = .ok (.iconst (-1), 1) := by decide +kernel
theorem dX6_init_68 : decode cX6_init 68 = .ok (.invokespecial 11, 3) := by decide +kernel
theorem dX6_init_71 : decode cX6_init 71 = .ok (.putfield 29, 3) := by decide +kernel
theorem dX6_init_74 : decode cX6_init 74 = .ok (.aload_n 0, 1) := by decide +kernel
theorem dX6_init_75 : decode cX6_init 75 = .ok (.new 9, 3) := by decide +kernel
theorem dX6_init_78 : decode cX6_init 78 = .ok (.dup, 1) := by decide +kernel
theorem dX6_init_79 : decode cX6_init 79 = .ok (.bipush 30, 2) := by decide +kernel
theorem dX6_init_81 : decode cX6_init 81 = .ok (.iconst (-1), 1) := by decide +kernel
theorem dX6_init_82 : decode cX6_init 82 = .ok (.invokespecial 11, 3) := by decide +kernel
theorem dX6_init_85 : decode cX6_init 85 = .ok (.putfield 32, 3) := by decide +kernel
theorem dX6_init_88 : decode cX6_init 88 = .ok (.aload_n 0, 1) := by decide +kernel
theorem dX6_init_89 : decode cX6_init 89 = .ok (.new 9, 3) := by decide +kernel
theorem dX6_init_92 : decode cX6_init 92 = .ok (.dup, 1) := by decide +kernel
theorem dX6_init_93 : decode cX6_init 93 = .ok (.bipush 30, 2) := by decide +kernel
theorem dX6_init_95 : decode cX6_init 95 = .ok (.iconst 0, 1) := by decide +kernel
theorem dX6_init_96 : decode cX6_init 96 = .ok (.invokespecial 11, 3) := by decide +kernel
theorem dX6_init_99 : decode cX6_init 99 = .ok (.putfield 35, 3) := by decide +kernel
theorem dX6_init_102 : decode cX6_init 102 = .ok (.return_, 1) := by decide +kernel
theorem dX6_isFull_0 : decode cX6_isFull 0 = .ok (.aload_n 0, 1) := by decide +kernel
theorem dX6_isFull_1 : decode cX6_isFull 1 = .ok (.getfield 38, 3) := by decide +kernel
theorem dX6_isFull_4 : decode cX6_isFull 4 = .ok (.bipush 30, 2) := by decide +kernel
theorem dX6_isFull_6 : decode cX6_isFull 6 = .ok (.if_icmp .lt 7, 3) := by decide +kernel
theorem dX6_isFull_9 : decode cX6_isFull 9 = .ok (.iconst 1, 1) := by decide +kernel
theorem dX6_isFull_10 : decode cX6_isFull 10 = .ok (.goto 4, 3) := by decide +kernel
theorem dX6_isFull_13 : decode cX6_isFull 13 = .ok (.iconst 0, 1) := by decide +kernel
theorem dX6_isFull_14 : decode cX6_isFull 14 = .ok (.ireturn, 1) := by decide +kernel
theorem dX6_add_0 : decode cX6_add 0 = .ok (.aload_n 0, 1) := by decide +kernel
theorem dX6_add_1 : decode cX6_add 1 = .ok (.getfield 38, 3) := by decide +kernel
theorem dX6_add_4 : decode cX6_add 4 = .ok (.istore 5, 2) := by decide +kernel
theorem dX6_add_6 : decode cX6_add 6 = .ok (.aload_n 0, 1) := by decide +kernel
theorem dX6_add_7 : decode cX6_add 7 = .ok (.getfield 20, 3) := by decide +kernel
theorem dX6_add_10 : decode cX6_add 10 = .ok (.iload 5, 2) := by decide +kernel
theorem dX6_add_12 : decode cX6_add 12 = .ok (.iload_n 1, 1) := by decide +kernel
theorem dX6_add_13 : decode cX6_add 13 = .ok (.invokevirtual 42, 3) := by decide +kernel
theorem dX6_add_16 : decode cX6_add 16 = .ok (.aload_n 0, 1) := by decide +kernel
theorem dX6_add_17 : decode cX6_add 17 = .ok (.getfield 23, 3) := by decide +kernel
theorem dX6_add_20 : decode cX6_add 20 = .ok (.iload 5, 2) := by decide +kernel
theorem dX6_add_22 : decode cX6_add 22 = .ok (.iload_n 2, 1) := by decide +kernel
theorem dX6_add_23 : decode cX6_add 23 = .ok (.invokevirtual 42, 3) := by decide +kernel
theorem dX6_add_26 : decode cX6_add 26 = .ok (.aload_n 0, 1) := by decide +kernel
theorem dX6_add_27 : decode cX6_add 27 = .ok (.getfield 26, 3) := by decide +kernel
theorem dX6_add_30 : decode cX6_add 30 = .ok (.iload 5, 2) := by decide +kernel
theorem dX6_add_32 : decode cX6_add 32 = .ok (.iload_n 3, 1) := by decide +kernel
theorem dX6_add_33 : decode cX6_add 33 = .ok (.invokevirtual 42, 3) := by decide +kernel
theorem dX6_add_36 : decode cX6_add 36 = .ok (.iconst 0, 1) := by decide +kernel
theorem dX6_add_37 : decode cX6_add 37 = .ok (.istore 6, 2) := by decide +kernel
theorem dX6_add_39 : decode cX6_add 39 = .ok (.iload 6, 2) := by decide +kernel
theorem dX6_add_41 : decode cX6_add 41 = .ok (.aload 4, 2) := by decide +kernel
theorem dX6_add_43 : decode cX6_add 43 = .ok (.getfield 45, 3) := by decide +kernel
theorem dX6_add_46 : decode cX6_add 46 = .ok (.if_icmp .ge 42, 3) := by decide +kernel
theorem dX6_add_49 : decode cX6_add 49 = .ok (.aload_n 0, 1) := by decide +kernel
theorem dX6_add_50 : decode cX6_add 50 = .ok (.iload 5, 2) := by decide +kernel
theorem dX6_add_52 : decode cX6_add 52 = .ok (.aload 4, 2) := by decide +kernel
theorem dX6_add_54 : decode cX6_add 54 = .ok (.getfield 48, 3) := by decide +kernel
theorem dX6_add_57 : decode cX6_add 57 = .ok (.iload 6, 2) := by decide +kernel
theorem dX6_add_59 : decode cX6_add 59 = .ok (.invokevirtual 51, 3) := by decide +kernel
theorem dX6_add_62 : decode cX6_add 62 = .ok (.invokevirtual 55, 3) := by decide +kernel
theorem dX6_add_65 : decode cX6_add 65 = .ok (.ifCond .eq 17, 3) := by decide +kernel
theorem dX6_add_68 : decode cX6_add 68 = .ok (.aload_n 0, 1) := by decide +kernel
theorem dX6_add_69 : decode cX6_add 69 = .ok (.getfield 35, 3) := by decide +kernel
theorem dX6_add_72 : decode cX6_add 72 = .ok (.iload 5, 2) := by decide +kernel
theorem dX6_add_74 : decode cX6_add 74 = .ok (.iconst 1, 1) := by decide +kernel
theorem dX6_add_75 : decode cX6_add 75 = .ok (.iload 6, 2) := by decide +kernel
theorem dX6_add_77 : decode cX6_add 77 = .ok (.ishl, 1) := by decide +kernel
theorem dX6_add_78 : decode cX6_add 78 = .ok (.invokevirtual 59, 3) := by decide +kernel
theorem dX6_add_81 : decode cX6_add 81 = .ok (.pop, 1) := by decide +kernel
theorem dX6_add_82 : decode cX6_add 82 = .ok (.iinc 6 1, 3) := by decide +kernel
theorem dX6_add_85 : decode cX6_add 85 = .ok (.goto (-46), 3) := by decide +kernel
theorem dX6_add_88 : decode cX6_add 88 = .ok (.aload_n 0, 1) := by decide +kernel
theorem dX6_add_89 : decode cX6_add 89 = .ok (.dup, 1) := by decide +kernel
theorem dX6_add_90 : decode cX6_add 90 = .ok (.getfield 38, 3) := by decide +kernel
theorem dX6_add_93 : decode cX6_add 93 = .ok (.iconst 1, 1) := by decide +kernel
theorem dX6_add_94 : decode cX6_add 94 = .ok (.iadd, 1) := by decide +kernel
theorem dX6_add_95 : decode cX6_add 95 = .ok (.putfield 38, 3) := by decide +kernel
theorem dX6_add_98 : decode cX6_add 98 = .ok (.iload 5, 2) := by decide +kernel
theorem dX6_add_100 : decode cX6_add 100 = .ok (.ireturn, 1) := by decide +kernel
theorem dX6_addJoined_0 : decode cX6_addJoined 0 = .ok (.aload_n 0, 1) := by decide +kernel
theorem dX6_addJoined_1 : decode cX6_addJoined 1 = .ok (.getfield 38, 3) := by decide +kernel
theorem dX6_addJoined_4 : decode cX6_addJoined 4 = .ok (.istore 4, 2) := by decide +kernel
theorem dX6_addJoined_6 : decode cX6_addJoined 6 = .ok (.aload_n 0, 1) := by decide +kernel
theorem dX6_addJoined_7 : decode cX6_addJoined 7 = .ok (.getfield 14, 3) := by decide +kernel
theorem dX6_addJoined_10 : decode cX6_addJoined 10 = .ok (.iload 4, 2) := by decide +kernel
theorem dX6_addJoined_12 : decode cX6_addJoined 12 = .ok (.iload_n 1, 1) := by decide +kernel
theorem dX6_addJoined_13 : decode cX6_addJoined 13 = .ok (.invokevirtual 42, 3) := by decide +kernel
theorem dX6_addJoined_16 : decode cX6_addJoined 16 = .ok (.aload_n 0, 1) := by decide +kernel
theorem dX6_addJoined_17 : decode cX6_addJoined 17 = .ok (.getfield 29, 3) := by decide +kernel
theorem dX6_addJoined_20 : decode cX6_addJoined 20 = .ok (.iload 4, 2) := by decide +kernel
theorem dX6_addJoined_22 : decode cX6_addJoined 22 = .ok (.iload_n 2, 1) := by decide +kernel
theorem dX6_addJoined_23 : decode cX6_addJoined 23 = .ok (.invokevirtual 42, 3) := by decide +kernel
theorem dX6_addJoined_26 : decode cX6_addJoined 26 = .ok (.aload_n 0, 1) := by decide +kernel
theorem dX6_addJoined_27 : decode cX6_addJoined 27 = .ok (.getfield 32, 3) := by decide +kernel
theorem dX6_addJoined_30 : decode cX6_addJoined 30 = .ok (.iload 4, 2) := by decide +kernel
theorem dX6_addJoined_32 : decode cX6_addJoined 32 = .ok (.iload_n 3, 1) := by decide +kernel
theorem dX6_addJoined_33 : decode cX6_addJoined 33 = .ok (.invokevirtual 42, 3) := by decide +kernel
theorem dX6_addJoined_36 : decode cX6_addJoined 36 = .ok (.aload_n 0, 1) := by decide +kernel
theorem dX6_addJoined_37 : decode cX6_addJoined 37 = .ok (.getfield 35, 3) := by decide +kernel
theorem dX6_addJoined_40 : decode cX6_addJoined 40 = .ok (.iload_n 2, 1) := by decide +kernel
theorem dX6_addJoined_41 : decode cX6_addJoined 41 = .ok (.invokevirtual 51, 3) := by decide +kernel
theorem dX6_addJoined_44 : decode cX6_addJoined 44 = .ok (.istore 5, 2) := by decide +kernel
theorem dX6_addJoined_46 : decode cX6_addJoined 46 = .ok (.aload_n 0, 1) := by decide +kernel
theorem dX6_addJoined_47 : decode cX6_addJoined 47 = .ok (.getfield 35, 3) := by decide +kernel
theorem dX6_addJoined_50 : decode cX6_addJoined 50 = .ok (.iload_n 3, 1) := by decide +kernel
theorem dX6_addJoined_51 : decode cX6_addJoined 51 = .ok (.invokevirtual 51, 3) := by decide +kernel
theorem dX6_addJoined_54 : decode cX6_addJoined 54 = .ok (.istore 6, 2) := by decide +kernel
theorem dX6_addJoined_56 : decode cX6_addJoined 56 = .ok (.aload_n 0, 1) := by decide +kernel
theorem dX6_addJoined_57 : decode cX6_addJoined 57 = .ok (.getfield 35, 3) := by decide +kernel
theorem dX6_addJoined_60 : decode cX6_addJoined 60 = .ok (.iload 4, 2) := by decide +kernel
theorem dX6_addJoined_62 : decode cX6_addJoined 62 = .ok (.iload_n 1, 1) := by decide +kernel
theorem dX6_addJoined_63 : decode cX6_addJoined 63 = .ok (.bipush 8, 2) := by decide +kernel
theorem dX6_addJoined_65 : decode cX6_addJoined 65 = .ok (.if_icmp .ne 11, 3) := by decide +kernel
theorem dX6_addJoined_68 : decode cX6_addJoined 68 = .ok (.iload 5, 2) := by decide +kernel
theorem dX6_addJoined_70 : decode cX6_addJoined 70 = .ok (.iload 6, 2) := by decide +kernel
theorem dX6_addJoined_72 : decode cX6_addJoined 72 = .ok (.iand, 1) := by decide +kernel
theorem dX6_addJoined_73 : decode cX6_addJoined 73 = .ok (.goto 8, 3) := by decide +kernel
theorem dX6_addJoined_76 : decode cX6_addJoined 76 = .ok (.iload 5, 2) := by decide +kernel
theorem dX6_addJoined_78 : decode cX6_addJoined 78 = .ok (.iload 6, 2) := by decide +kernel
theorem dX6_addJoined_80 : decode cX6_addJoined 80 = .ok (.ior, 1) := by decide +kernel
theorem dX6_addJoined_81 : decode cX6_addJoined 81 = .ok (.invokevirtual 42, 3) := by decide +kernel
theorem dX6_addJoined_84 : decode cX6_addJoined 84 = .ok (.aload_n 0, 1) := by decide +kernel
theorem dX6_addJoined_85 : decode cX6_addJoined 85 = .ok (.dup, 1) := by decide +kernel
theorem dX6_addJoined_86 : decode cX6_addJoined 86 = .ok (.getfield 38, 3) := by decide +kernel
theorem dX6_addJoined_89 : decode cX6_addJoined 89 = .ok (.iconst 1, 1) := by decide +kernel
theorem dX6_addJoined_90 : decode cX6_addJoined 90 = .ok (.iadd, 1) := by decide +kernel
theorem dX6_addJoined_91 : decode cX6_addJoined 91 = .ok (.putfield 38, 3) := by decide +kernel
theorem dX6_addJoined_94 : decode cX6_addJoined 94 = .ok (.iload 4, 2) := by decide +kernel
theorem dX6_addJoined_96 : decode cX6_addJoined 96 = .ok (.ireturn, 1) := by decide +kernel
theorem dX6_take_0 : decode cX6_take 0 = .ok (.iconst 0, 1) := by decide +kernel
theorem dX6_take_1 : decode cX6_take 1 = .ok (.istore_n 3, 1) := by decide +kernel
theorem dX6_take_2 : decode cX6_take 2 = .ok (.iload_n 3, 1) := by decide +kernel
theorem dX6_take_3 : decode cX6_take 3 = .ok (.aload_n 0, 1) := by decide +kernel
theorem dX6_take_4 : decode cX6_take 4 = .ok (.getfield 38, 3) := by decide +kernel
theorem dX6_take_7 : decode cX6_take 7 = .ok (.if_icmp .ge 124, 3) := by decide +kernel
theorem dX6_take_10 : decode cX6_take 10 = .ok (.aload_n 0, 1) := by decide +kernel
theorem dX6_take_11 : decode cX6_take 11 = .ok (.getfield 14, 3) := by decide +kernel
theorem dX6_take_14 : decode cX6_take 14 = .ok (.iload_n 3, 1) := by decide +kernel
theorem dX6_take_15 : decode cX6_take 15 = .ok (.invokevirtual 51, 3) := by decide +kernel
theorem dX6_take_18 : decode cX6_take 18 = .ok (.istore 4, 2) := by decide +kernel
theorem dX6_take_20 : decode cX6_take 20 = .ok (.aload_n 0, 1) := by decide +kernel
theorem dX6_take_21 : decode cX6_take 21 = .ok (.aload_n 0, 1) := by decide +kernel
theorem dX6_take_22 : decode cX6_take 22 = .ok (.getfield 29, 3) := by decide +kernel
theorem dX6_take_25 : decode cX6_take 25 = .ok (.iload_n 3, 1) := by decide +kernel
theorem dX6_take_26 : decode cX6_take 26 = .ok (.invokevirtual 51, 3) := by decide +kernel
theorem dX6_take_29 : decode cX6_take 29 = .ok (.iload_n 1, 1) := by decide +kernel
theorem dX6_take_30 : decode cX6_take 30 = .ok (.invokevirtual 62, 3) := by decide +kernel
theorem dX6_take_33 : decode cX6_take 33 = .ok (.istore 5, 2) := by decide +kernel
theorem dX6_take_35 : decode cX6_take 35 = .ok (.aload_n 0, 1) := by decide +kernel
theorem dX6_take_36 : decode cX6_take 36 = .ok (.aload_n 0, 1) := by decide +kernel
theorem dX6_take_37 : decode cX6_take 37 = .ok (.getfield 32, 3) := by decide +kernel
theorem dX6_take_40 : decode cX6_take 40 = .ok (.iload_n 3, 1) := by decide +kernel
theorem dX6_take_41 : decode cX6_take 41 = .ok (.invokevirtual 51, 3) := by decide +kernel
theorem dX6_take_44 : decode cX6_take 44 = .ok (.iload_n 1, 1) := by decide +kernel
theorem dX6_take_45 : decode cX6_take 45 = .ok (.invokevirtual 62, 3) := by decide +kernel
theorem dX6_take_48 : decode cX6_take 48 = .ok (.istore 6, 2) := by decide +kernel
theorem dX6_take_50 : decode cX6_take 50 = .ok (.iload 4, 2) := by decide +kernel
theorem dX6_take_52 : decode cX6_take 52 = .ok (.bipush 8, 2) := by decide +kernel
theorem dX6_take_54 : decode cX6_take 54 = .ok (.if_icmp .ne 21, 3) := by decide +kernel
theorem dX6_take_57 : decode cX6_take 57 = .ok (.iload 5, 2) := by decide +kernel
theorem dX6_take_59 : decode cX6_take 59 = .ok (.ifCond .eq 12, 3) := by decide +kernel
theorem dX6_take_62 : decode cX6_take 62 = .ok (.iload 6, 2) := by decide +kernel
theorem dX6_take_64 : decode cX6_take 64 = .ok (.ifCond .eq 7, 3) := by decide +kernel
theorem dX6_take_67 : decode cX6_take 67 = .ok (.iconst 1, 1) := by decide +kernel
theorem dX6_take_68 : decode cX6_take 68 = .ok (.goto 38, 3) := by decide +kernel
theorem dX6_take_71 : decode cX6_take 71 = .ok (.iconst 0, 1) := by decide +kernel
theorem dX6_take_72 : decode cX6_take 72 = .ok (.goto 34, 3) := by decide +kernel
theorem dX6_take_75 : decode cX6_take 75 = .ok (.iload 4, 2) := by decide +kernel
theorem dX6_take_77 : decode cX6_take 77 = .ok (.bipush 9, 2) := by decide +kernel
theorem dX6_take_79 : decode cX6_take 79 = .ok (.if_icmp .ne 21, 3) := by decide +kernel
theorem dX6_take_82 : decode cX6_take 82 = .ok (.iload 5, 2) := by decide +kernel
theorem dX6_take_84 : decode cX6_take 84 = .ok (.ifCond .ne 8, 3) := by decide +kernel
theorem dX6_take_87 : decode cX6_take 87 = .ok (.iload 6, 2) := by decide +kernel
theorem dX6_take_89 : decode cX6_take 89 = .ok (.ifCond .eq 7, 3) := by decide +kernel
theorem dX6_take_92 : decode cX6_take 92 = .ok (.iconst 1, 1) := by decide +kernel
theorem dX6_take_93 : decode cX6_take 93 = .ok (.goto 13, 3) := by decide +kernel
theorem dX6_take_96 : decode cX6_take 96 = .ok (.iconst 0, 1) := by decide +kernel
theorem dX6_take_97 : decode cX6_take 97 = .ok (.goto 9, 3) := by decide +kernel
theorem dX6_take_100 : decode cX6_take 100 = .ok (.aload_n 0, 1) := by decide +kernel
theorem dX6_take_101 : decode cX6_take 101 = .ok (.iload_n 3, 1) := by decide +kernel
theorem dX6_take_102 : decode cX6_take 102 = .ok (.iload_n 2, 1) := by decide +kernel
theorem dX6_take_103 : decode cX6_take 103 = .ok (.invokevirtual 55, 3) := by decide +kernel
theorem dX6_take_106 : decode cX6_take 106 = .ok (.istore 7, 2) := by decide +kernel
theorem dX6_take_108 : decode cX6_take 108 = .ok (.iload 7, 2) := by decide +kernel
theorem dX6_take_110 : decode cX6_take 110 = .ok (.ifCond .eq 15, 3) := by decide +kernel
theorem dX6_take_113 : decode cX6_take 113 = .ok (.aload_n 0, 1) := by decide +kernel
theorem dX6_take_114 : decode cX6_take 114 = .ok (.getfield 35, 3) := by decide +kernel
theorem dX6_take_117 : decode cX6_take 117 = .ok (.iload_n 3, 1) := by decide +kernel
theorem dX6_take_118 : decode cX6_take 118 = .ok (.iconst 1, 1) := by decide +kernel
theorem dX6_take_119 : decode cX6_take 119 = .ok (.iload_n 1, 1) := by decide +kernel
theorem dX6_take_120 : decode cX6_take 120 = .ok (.ishl, 1) := by decide +kernel
theorem dX6_take_121 : decode cX6_take 121 = .ok (.invokevirtual 59, 3) := by decide +kernel
theorem dX6_take_124 : decode cX6_take 124 = .ok (.pop, 1) := by decide +kernel
theorem dX6_take_125 : decode cX6_take 125 = .ok (.iinc 3 1, 3) := by decide +kernel
theorem dX6_take_128 : decode cX6_take 128 = .ok (.goto (-126), 3) := by decide +kernel
theorem dX6_take_131 : decode cX6_take 131 = .ok (.return_, 1) := by decide +kernel
theorem dX6_holds_0 : decode cX6_holds 0 = .ok (.aload_n 0, 1) := by decide +kernel
theorem dX6_holds_1 : decode cX6_holds 1 = .ok (.getfield 38, 3) := by decide +kernel
theorem dX6_holds_4 : decode cX6_holds 4 = .ok (.iconst 1, 1) := by decide +kernel
theorem dX6_holds_5 : decode cX6_holds 5 = .ok (.isub, 1) := by decide +kernel
theorem dX6_holds_6 : decode cX6_holds 6 = .ok (.iload_n 1, 1) := by decide +kernel
theorem dX6_holds_7 : decode cX6_holds 7 = .ok (.invokestatic 65, 3) := by decide +kernel
theorem dX6_holds_10 : decode cX6_holds 10 = .ok (.ifCond .eq 22, 3) := by decide +kernel
theorem dX6_holds_13 : decode cX6_holds 13 = .ok (.aload_n 0, 1) := by decide +kernel
theorem dX6_holds_14 : decode cX6_holds 14 = .ok (.getfield 35, 3) := by decide +kernel
theorem dX6_holds_17 : decode cX6_holds 17 = .ok (.iload_n 1, 1) := by decide +kernel
theorem dX6_holds_18 : decode cX6_holds 18 = .ok (.invokevirtual 51, 3) := by decide +kernel
theorem dX6_holds_21 : decode cX6_holds 21 = .ok (.iload_n 2, 1) := by decide +kernel
theorem dX6_holds_22 : decode cX6_holds 22 = .ok (.invokestatic 68, 3) := by decide +kernel
theorem dX6_holds_25 : decode cX6_holds 25 = .ok (.ifCond .eq 7, 3) := by decide +kernel
theorem dX6_holds_28 : decode cX6_holds 28 = .ok (.iconst 1, 1) := by decide +kernel
theorem dX6_holds_29 : decode cX6_holds 29 = .ok (.goto 4, 3) := by decide +kernel
theorem dX6_holds_32 : decode cX6_holds 32 = .ok (.iconst 0, 1) := by decide +kernel
theorem dX6_holds_33 : decode cX6_holds 33 = .ok (.ireturn, 1) := by decide +kernel
theorem dX6_reaches_0 : decode cX6_reaches 0 = .ok (.iload_n 2, 1) := by decide +kernel
theorem dX6_reaches_1 : decode cX6_reaches 1 = .ok (.aload_n 0, 1) := by decide +kernel
theorem dX6_reaches_2 : decode cX6_reaches 2 = .ok (.getfield 20, 3) := by decide +kernel
theorem dX6_reaches_5 : decode cX6_reaches 5 = .ok (.iload_n 1, 1) := by decide +kernel
theorem dX6_reaches_6 : decode cX6_reaches 6 = .ok (.invokevirtual 51, 3) := by decide +kernel
theorem dX6_reaches_9 : decode cX6_reaches 9 = .ok (.if_icmp .lt 41, 3) := by decide +kernel
theorem dX6_reaches_12 : decode cX6_reaches 12 = .ok (.iload_n 2, 1) := by decide +kernel
theorem dX6_reaches_13 : decode cX6_reaches 13 = .ok (.aload_n 0, 1) := by decide +kernel
theorem dX6_reaches_14 : decode cX6_reaches 14 = .ok (.getfield 23, 3) := by decide +kernel
theorem dX6_reaches_17 : decode cX6_reaches 17 = .ok (.iload_n 1, 1) := by decide +kernel
theorem dX6_reaches_18 : decode cX6_reaches 18 = .ok (.invokevirtual 51, 3) := by decide +kernel
theorem dX6_reaches_21 : decode cX6_reaches 21 = .ok (.if_icmp .ge 29, 3) := by decide +kernel
theorem dX6_reaches_24 : decode cX6_reaches 24 = .ok (.iload_n 2, 1) := by decide +kernel
theorem dX6_reaches_25 : decode cX6_reaches 25 = .ok (.invokestatic 71, 3) := by decide +kernel
theorem dX6_reaches_28 : decode cX6_reaches 28 = .ok (.ifCond .eq 18, 3) := by decide +kernel
theorem dX6_reaches_31 : decode cX6_reaches 31 = .ok (.aload_n 0, 1) := by decide +kernel
theorem dX6_reaches_32 : decode cX6_reaches 32 = .ok (.getfield 26, 3) := by decide +kernel
theorem dX6_reaches_35 : decode cX6_reaches 35 = .ok (.iload_n 1, 1) := by decide +kernel
theorem dX6_reaches_36 : decode cX6_reaches 36 = .ok (.invokevirtual 51, 3) := by decide +kernel
theorem dX6_reaches_39 : decode cX6_reaches 39 = .ok (.iload_n 2, 1) := by decide +kernel
theorem dX6_reaches_40 : decode cX6_reaches 40 = .ok (.invokestatic 75, 3) := by decide +kernel
theorem dX6_reaches_43 : decode cX6_reaches 43 = .ok (.if_icmp .ne 7, 3) := by decide +kernel
theorem dX6_reaches_46 : decode cX6_reaches 46 = .ok (.iconst 1, 1) := by decide +kernel
theorem dX6_reaches_47 : decode cX6_reaches 47 = .ok (.goto 4, 3) := by decide +kernel
theorem dX6_reaches_50 : decode cX6_reaches 50 = .ok (.iconst 0, 1) := by decide +kernel
theorem dX6_reaches_51 : decode cX6_reaches 51 = .ok (.ireturn, 1) := by decide +kernel
theorem dX7_init_0 : decode cX7_init 0 = .ok (.aload_n 0, 1) := by decide +kernel
theorem dX7_init_1 : decode cX7_init 1 = .ok (.invokespecial 3, 3) := by decide +kernel
theorem dX7_init_4 : decode cX7_init 4 = .ok (.aload_n 0, 1) := by decide +kernel
theorem dX7_init_5 : decode cX7_init 5 = .ok (.iload_n 1, 1) := by decide +kernel
theorem dX7_init_6 : decode cX7_init 6 = .ok (.ifCond .le 7, 3) := by decide +kernel
theorem dX7_init_9 : decode cX7_init 9 = .ok (.iload_n 1, 1) := by decide +kernel
theorem dX7_init_10 : decode cX7_init 10 = .ok (.goto 4, 3) := by decide +kernel
theorem dX7_init_13 : decode cX7_init 13 = .ok (.iconst 0, 1) := by decide +kernel
theorem dX7_init_14 : decode cX7_init 14 = .ok (.newarray .int, 2) := by decide +kernel
theorem dX7_init_16 : decode cX7_init 16 = .ok (.putfield 9, 3) := by decide +kernel
theorem dX7_init_19 : decode cX7_init 19 = .ok (.aload_n 0, 1) := by decide +kernel
theorem dX7_init_20 : decode cX7_init 20 = .ok (.getfield 9, 3) := by decide +kernel
theorem dX7_init_23 : decode cX7_init 23 = .ok (.iload_n 2, 1) := by decide +kernel
theorem dX7_init_24 : decode cX7_init 24 = .ok (.invokestatic 15, 3) := by decide +kernel
theorem dX7_init_27 : decode cX7_init 27 = .ok (.return_, 1) := by decide +kernel
theorem dX7_get_0 : decode cX7_get 0 = .ok (.iload_n 1, 1) := by decide +kernel
theorem dX7_get_1 : decode cX7_get 1 = .ok (.ifCond .lt 21, 3) := by decide +kernel
theorem dX7_get_4 : decode cX7_get 4 = .ok (.iload_n 1, 1) := by decide +kernel
theorem dX7_get_5 : decode cX7_get 5 = .ok (.aload_n 0, 1) := by decide +kernel
theorem dX7_get_6 : decode cX7_get 6 = .ok (.getfield 9, 3) := by decide +kernel
theorem dX7_get_9 : decode cX7_get 9 = .ok (.arraylength, 1) := by decide +kernel
theorem dX7_get_10 : decode cX7_get 10 = .ok (.if_icmp .ge 12, 3) := by decide +kernel
theorem dX7_get_13 : decode cX7_get 13 = .ok (.aload_n 0, 1) := by decide +kernel
theorem dX7_get_14 : decode cX7_get 14 = .ok (.getfield 9, 3) := by decide +kernel
theorem dX7_get_17 : decode cX7_get 17 = .ok (.iload_n 1, 1) := by decide +kernel
theorem dX7_get_18 : decode cX7_get 18 = .ok (.iaload, 1) := by decide +kernel
theorem dX7_get_19 : decode cX7_get 19 = .ok (.goto 4, 3) := by decide +kernel
theorem dX7_get_22 : decode cX7_get 22 = .ok (.iconst (-1), 1) := by decide +kernel
theorem dX7_get_23 : decode cX7_get 23 = .ok (.ireturn, 1) := by decide +kernel
theorem dX7_set_0 : decode cX7_set 0 = .ok (.iload_n 1, 1) := by decide +kernel
theorem dX7_set_1 : decode cX7_set 1 = .ok (.ifCond .lt 19, 3) := by decide +kernel
theorem dX7_set_4 : decode cX7_set 4 = .ok (.iload_n 1, 1) := by decide +kernel
theorem dX7_set_5 : decode cX7_set 5 = .ok (.aload_n 0, 1) := by decide +kernel
theorem dX7_set_6 : decode cX7_set 6 = .ok (.getfield 9, 3) := by decide +kernel
theorem dX7_set_9 : decode cX7_set 9 = .ok (.arraylength, 1) := by decide +kernel
theorem dX7_set_10 : decode cX7_set 10 = .ok (.if_icmp .ge 10, 3) := by decide +kernel
theorem dX7_set_13 : decode cX7_set 13 = .ok (.aload_n 0, 1) := by decide +kernel
theorem dX7_set_14 : decode cX7_set 14 = .ok (.getfield 9, 3) := by decide +kernel
theorem dX7_set_17 : decode cX7_set 17 = .ok (.iload_n 1, 1) := by decide +kernel
theorem dX7_set_18 : decode cX7_set 18 = .ok (.iload_n 2, 1) := by decide +kernel
theorem dX7_set_19 : decode cX7_set 19 = .ok (.iastore, 1) := by decide +kernel
theorem dX7_set_20 : decode cX7_set 20 = .ok (.return_, 1) := by decide +kernel
theorem dX7_exchange_0 : decode cX7_exchange 0 = .ok (.aload_n 0, 1) := by decide +kernel
theorem dX7_exchange_1 : decode cX7_exchange 1 = .ok (.iload_n 1, 1) := by decide +kernel
theorem dX7_exchange_2 : decode cX7_exchange 2 = .ok (.invokevirtual 21, 3) := by decide +kernel
theorem dX7_exchange_5 : decode cX7_exchange 5 = .ok (.istore_n 3, 1) := by decide +kernel
theorem dX7_exchange_6 : decode cX7_exchange 6 = .ok (.aload_n 0, 1) := by decide +kernel
theorem dX7_exchange_7 : decode cX7_exchange 7 = .ok (.iload_n 1, 1) := by decide +kernel
theorem dX7_exchange_8 : decode cX7_exchange 8 = .ok (.iload_n 2, 1) := by decide +kernel
theorem dX7_exchange_9 : decode cX7_exchange 9 = .ok (.invokevirtual 25, 3) := by decide +kernel
theorem dX7_exchange_12 : decode cX7_exchange 12 = .ok (.iload_n 3, 1) := by decide +kernel
theorem dX7_exchange_13 : decode cX7_exchange 13 = .ok (.ireturn, 1) := by decide +kernel
theorem dX7_merge_0 : decode cX7_merge 0 = .ok (.iload_n 1, 1) := by decide +kernel
theorem dX7_merge_1 : decode cX7_merge 1 = .ok (.ifCond .lt 12, 3) := by decide +kernel
theorem dX7_merge_4 : decode cX7_merge 4 = .ok (.iload_n 1, 1) := by decide +kernel
theorem dX7_merge_5 : decode cX7_merge 5 = .ok (.aload_n 0, 1) := by decide +kernel
theorem dX7_merge_6 : decode cX7_merge 6 = .ok (.getfield 9, 3) := by decide +kernel
theorem dX7_merge_9 : decode cX7_merge 9 = .ok (.arraylength, 1) := by decide +kernel
theorem dX7_merge_10 : decode cX7_merge 10 = .ok (.if_icmp .lt 5, 3) := by decide +kernel
theorem dX7_merge_13 : decode cX7_merge 13 = .ok (.iconst 0, 1) := by decide +kernel
theorem dX7_merge_14 : decode cX7_merge 14 = .ok (.ireturn, 1) := by decide +kernel
theorem dX7_merge_15 : decode cX7_merge 15 = .ok (.aload_n 0, 1) := by decide +kernel
theorem dX7_merge_16 : decode cX7_merge 16 = .ok (.getfield 9, 3) := by decide +kernel
theorem dX7_merge_19 : decode cX7_merge 19 = .ok (.iload_n 1, 1) := by decide +kernel
theorem dX7_merge_20 : decode cX7_merge 20 = .ok (.iaload, 1) := by decide +kernel
theorem dX7_merge_21 : decode cX7_merge 21 = .ok (.istore_n 3, 1) := by decide +kernel
theorem dX7_merge_22 : decode cX7_merge 22 = .ok (.aload_n 0, 1) := by decide +kernel
theorem dX7_merge_23 : decode cX7_merge 23 = .ok (.getfield 9, 3) := by decide +kernel
theorem dX7_merge_26 : decode cX7_merge 26 = .ok (.iload_n 1, 1) := by decide +kernel
theorem dX7_merge_27 : decode cX7_merge 27 = .ok (.iload_n 3, 1) := by decide +kernel
theorem dX7_merge_28 : decode cX7_merge 28 = .ok (.iload_n 2, 1) := by decide +kernel
theorem dX7_merge_29 : decode cX7_merge 29 = .ok (.ior, 1) := by decide +kernel
theorem dX7_merge_30 : decode cX7_merge 30 = .ok (.iastore, 1) := by decide +kernel
theorem dX7_merge_31 : decode cX7_merge 31 = .ok (.aload_n 0, 1) := by decide +kernel
theorem dX7_merge_32 : decode cX7_merge 32 = .ok (.getfield 9, 3) := by decide +kernel
theorem dX7_merge_35 : decode cX7_merge 35 = .ok (.iload_n 1, 1) := by decide +kernel
theorem dX7_merge_36 : decode cX7_merge 36 = .ok (.iaload, 1) := by decide +kernel
theorem dX7_merge_37 : decode cX7_merge 37 = .ok (.iload_n 3, 1) := by decide +kernel
theorem dX7_merge_38 : decode cX7_merge 38 = .ok (.if_icmp .eq 7, 3) := by decide +kernel
theorem dX7_merge_41 : decode cX7_merge 41 = .ok (.iconst 1, 1) := by decide +kernel
theorem dX7_merge_42 : decode cX7_merge 42 = .ok (.goto 4, 3) := by decide +kernel
theorem dX7_merge_45 : decode cX7_merge 45 = .ok (.iconst 0, 1) := by decide +kernel
theorem dX7_merge_46 : decode cX7_merge 46 = .ok (.ireturn, 1) := by decide +kernel
theorem dX7_fill_0 : decode cX7_fill 0 = .ok (.aload_n 0, 1) := by decide +kernel
theorem dX7_fill_1 : decode cX7_fill 1 = .ok (.getfield 9, 3) := by decide +kernel
theorem dX7_fill_4 : decode cX7_fill 4 = .ok (.iload_n 1, 1) := by decide +kernel
theorem dX7_fill_5 : decode cX7_fill 5 = .ok (.invokestatic 15, 3) := by decide +kernel
theorem dX7_fill_8 : decode cX7_fill 8 = .ok (.return_, 1) := by decide +kernel
theorem dX7_copy_0 : decode cX7_copy 0 = .ok (.iconst 0, 1) := by decide +kernel
theorem dX7_copy_1 : decode cX7_copy 1 = .ok (.istore_n 2, 1) := by decide +kernel
theorem dX7_copy_2 : decode cX7_copy 2 = .ok (.iload_n 2, 1) := by decide +kernel
theorem dX7_copy_3 : decode cX7_copy 3 = .ok (.aload_n 0, 1) := by decide +kernel
theorem dX7_copy_4 : decode cX7_copy 4 = .ok (.getfield 9, 3) := by decide +kernel
theorem dX7_copy_7 : decode cX7_copy 7 = .ok (.arraylength, 1) := by decide +kernel
theorem dX7_copy_8 : decode cX7_copy 8 = .ok (.if_icmp .ge 20, 3) := by decide +kernel
theorem dX7_copy_11 : decode cX7_copy 11 = .ok (.aload_n 0, 1) := by decide +kernel
theorem dX7_copy_12 : decode cX7_copy 12 = .ok (.getfield 9, 3) := by decide +kernel
theorem dX7_copy_15 : decode cX7_copy 15 = .ok (.iload_n 2, 1) := by decide +kernel
theorem dX7_copy_16 : decode cX7_copy 16 = .ok (.aload_n 1, 1) := by decide +kernel
theorem dX7_copy_17 : decode cX7_copy 17 = .ok (.iload_n 2, 1) := by decide +kernel
theorem dX7_copy_18 : decode cX7_copy 18 = .ok (.invokevirtual 21, 3) := by decide +kernel
theorem dX7_copy_21 : decode cX7_copy 21 = .ok (.iastore, 1) := by decide +kernel
theorem dX7_copy_22 : decode cX7_copy 22 = .ok (.iinc 2 1, 3) := by decide +kernel
theorem dX7_copy_25 : decode cX7_copy 25 = .ok (.goto (-23), 3) := by decide +kernel
theorem dX7_copy_28 : decode cX7_copy 28 = .ok (.return_, 1) := by decide +kernel
theorem dX7_count_0 : decode cX7_count 0 = .ok (.iconst 0, 1) := by decide +kernel
theorem dX7_count_1 : decode cX7_count 1 = .ok (.istore_n 2, 1) := by decide +kernel
theorem dX7_count_2 : decode cX7_count 2 = .ok (.iconst 0, 1) := by decide +kernel
theorem dX7_count_3 : decode cX7_count 3 = .ok (.istore_n 3, 1) := by decide +kernel
theorem dX7_count_4 : decode cX7_count 4 = .ok (.iload_n 3, 1) := by decide +kernel
theorem dX7_count_5 : decode cX7_count 5 = .ok (.aload_n 0, 1) := by decide +kernel
theorem dX7_count_6 : decode cX7_count 6 = .ok (.getfield 9, 3) := by decide +kernel
theorem dX7_count_9 : decode cX7_count 9 = .ok (.arraylength, 1) := by decide +kernel
theorem dX7_count_10 : decode cX7_count 10 = .ok (.if_icmp .ge 22, 3) := by decide +kernel
theorem dX7_count_13 : decode cX7_count 13 = .ok (.aload_n 0, 1) := by decide +kernel
theorem dX7_count_14 : decode cX7_count 14 = .ok (.getfield 9, 3) := by decide +kernel
theorem dX7_count_17 : decode cX7_count 17 = .ok (.iload_n 3, 1) := by decide +kernel
theorem dX7_count_18 : decode cX7_count 18 = .ok (.iaload, 1) := by decide +kernel
theorem dX7_count_19 : decode cX7_count 19 = .ok (.iload_n 1, 1) := by decide +kernel
theorem dX7_count_20 : decode cX7_count 20 = .ok (.if_icmp .ne 6, 3) := by decide +kernel
theorem dX7_count_23 : decode cX7_count 23 = .ok (.iinc 2 1, 3) := by decide +kernel
theorem dX7_count_26 : decode cX7_count 26 = .ok (.iinc 3 1, 3) := by decide +kernel
theorem dX7_count_29 : decode cX7_count 29 = .ok (.goto (-25), 3) := by decide +kernel
theorem dX7_count_32 : decode cX7_count 32 = .ok (.iload_n 2, 1) := by decide +kernel
theorem dX7_count_33 : decode cX7_count 33 = .ok (.ireturn, 1) := by decide +kernel
theorem dX8_init_0 : decode cX8_init 0 = .ok (.aload_n 0, 1) := by decide +kernel
theorem dX8_init_1 : decode cX8_init 1 = .ok (.invokespecial 3, 3) := by decide +kernel
theorem dX8_init_4 : decode cX8_init 4 = .ok (.aload_n 0, 1) := by decide +kernel
theorem dX8_init_5 : decode cX8_init 5 = .ok (.new 9, 3) := by decide +kernel
theorem dX8_init_8 : decode cX8_init 8 = .ok (.dup, 1) := by decide +kernel
theorem dX8_init_9 : decode cX8_init 9 = .ok (.bipush 6, 2) := by decide +kernel
theorem dX8_init_11 : decode cX8_init 11 = .ok (.iconst (-1), 1) := by decide +kernel
theorem dX8_init_12 : decode cX8_init 12 = .ok (.invokespecial 11, 3) := by decide +kernel
theorem dX8_init_15 : decode cX8_init 15 = .ok (.putfield 14, 3) := by decide +kernel
theorem dX8_init_18 : decode cX8_init 18 = .ok (.aload_n 0, 1) := by decide +kernel
theorem dX8_init_19 : decode cX8_init 19 = .ok (.new 9, 3) := by decide +kernel
theorem dX8_init_22 : decode cX8_init 22 = .ok (.dup, 1) := by decide +kernel
theorem dX8_init_23 : decode cX8_init 23 = .ok (.bipush 30, 2) := by decide +kernel
theorem dX8_init_25 : decode cX8_init 25 = .ok (.iconst (-1), 1) := by decide +kernel
theorem dX8_init_26 : decode cX8_init 26 = .ok (.invokespecial 11, 3) := by decide +kernel
theorem dX8_init_29 : decode cX8_init 29 = .ok (.putfield 20, 3) := by decide +kernel
theorem dX8_init_32 : decode cX8_init 32 = .ok (.aload_n 0, 1) := by decide +kernel
theorem dX8_init_33 : decode cX8_init 33 = .ok (.new 9, 3) := by decide +kernel
theorem dX8_init_36 : decode cX8_init 36 = .ok (.dup, 1) := by decide +kernel
theorem dX8_init_37 : decode cX8_init 37 = .ok (.bipush 6, 2) := by decide +kernel
theorem dX8_init_39 : decode cX8_init 39 = .ok (.iconst 0, 1) := by decide +kernel
theorem dX8_init_40 : decode cX8_init 40 = .ok (.invokespecial 11, 3) := by decide +kernel
theorem dX8_init_43 : decode cX8_init 43 = .ok (.putfield 23, 3) := by decide +kernel
theorem dX8_init_46 : decode cX8_init 46 = .ok (.aload_n 0, 1) := by decide +kernel
theorem dX8_init_47 : decode cX8_init 47 = .ok (.new 9, 3) := by decide +kernel
theorem dX8_init_50 : decode cX8_init 50 = .ok (.dup, 1) := by decide +kernel
theorem dX8_init_51 : decode cX8_init 51 = .ok (.bipush 6, 2) := by decide +kernel
theorem dX8_init_53 : decode cX8_init 53 = .ok (.iconst 0, 1) := by decide +kernel
theorem dX8_init_54 : decode cX8_init 54 = .ok (.invokespecial 11, 3) := by decide +kernel
theorem dX8_init_57 : decode cX8_init 57 = .ok (.putfield 26, 3) := by decide +kernel
theorem dX8_init_60 : decode cX8_init 60 = .ok (.aload_n 0, 1) := by decide +kernel
theorem dX8_init_61 : decode cX8_init 61 = .ok (.aload_n 1, 1) := by decide +kernel
theorem dX8_init_62 : decode cX8_init 62 = .ok (.putfield 29, 3) := by decide +kernel
theorem dX8_init_65 : decode cX8_init 65 = .ok (.aload_n 0, 1) := by decide +kernel
theorem dX8_init_66 : decode cX8_init 66 = .ok (.aload_n 2, 1) := by decide +kernel
theorem dX8_init_67 : decode cX8_init 67 = .ok (.putfield 33, 3) := by decide +kernel
theorem dX8_init_70 : decode cX8_init 70 = .ok (.aload_n 0, 1) := by decide +kernel
theorem dX8_init_71 : decode cX8_init 71 = .ok (.new 37, 3) := by decide +kernel
theorem dX8_init_74 : decode cX8_init 74 = .ok (.dup, 1) := by decide +kernel
theorem dX8_init_75 : decode cX8_init 75 = .ok (.aload_n 1, 1) := by decide +kernel
theorem dX8_init_76 : decode cX8_init 76 = .ok (.invokespecial 39, 3) := by decide +kernel
theorem dX8_init_79 : decode cX8_init 79 = .ok (.putfield 42, 3) := by decide +kernel
theorem dX8_init_82 : decode cX8_init 82 = .ok (.return_, 1) := by decide +kernel
theorem dX8_findBest_0 : decode cX8_findBest 0 = .ok (.aload_n 0, 1) := by decide +kernel
theorem dX8_findBest_1 : decode cX8_findBest 1 = .ok (.aload_n 0, 1) := by decide +kernel
theorem dX8_findBest_2 : decode cX8_findBest 2 = .ok (.getfield 33, 3) := by decide +kernel
theorem dX8_findBest_5 : decode cX8_findBest 5 = .ok (.invokevirtual 46, 3) := by decide +kernel
theorem dX8_findBest_8 : decode cX8_findBest 8 = .ok (.iconst (-1), 1) := by decide +kernel
theorem dX8_findBest_9 : decode cX8_findBest 9 = .ok (.invokevirtual 52, 3) := by decide +kernel
theorem dX8_findBest_12 : decode cX8_findBest 12 = .ok (.aload_n 0, 1) := by decide +kernel
theorem dX8_findBest_13 : decode cX8_findBest 13 = .ok (.getfield 14, 3) := by decide +kernel
theorem dX8_findBest_16 : decode cX8_findBest 16 = .ok (.iconst (-1), 1) := by decide +kernel
theorem dX8_findBest_17 : decode cX8_findBest 17 = .ok (.invokevirtual 55, 3) := by decide +kernel
theorem dX8_findBest_20 : decode cX8_findBest 20 = .ok (.iconst 0, 1) := by decide +kernel
theorem dX8_findBest_21 : decode cX8_findBest 21 = .ok (.istore_n 1, 1) := by decide +kernel
theorem dX8_findBest_22 : decode cX8_findBest 22 = .ok (.iconst 0, 1) := by decide +kernel
theorem dX8_findBest_23 : decode cX8_findBest 23 = .ok (.istore_n 2, 1) := by decide +kernel
theorem dX8_findBest_24 : decode cX8_findBest 24 = .ok (.iload_n 2, 1) := by decide +kernel
theorem dX8_findBest_25 : decode cX8_findBest 25 = .ok (.bipush 6, 2) := by decide +kernel
theorem dX8_findBest_27 : decode cX8_findBest 27 = .ok (.if_icmp .gt 50, 3) := by decide +kernel
theorem dX8_findBest_30 : decode cX8_findBest 30 = .ok (.aload_n 0, 1) := by decide +kernel
theorem dX8_findBest_31 : decode cX8_findBest 31 = .ok (.invokevirtual 59, 3) := by decide +kernel
theorem dX8_findBest_34 : decode cX8_findBest 34 = .ok (.ifCond .eq 43, 3) := by decide +kernel
theorem dX8_findBest_37 : decode cX8_findBest 37 = .ok (.aload_n 0, 1) := by decide +kernel
theorem dX8_findBest_38 : decode cX8_findBest 38 = .ok (.getfield 14, 3) := by decide +kernel
theorem dX8_findBest_41 : decode cX8_findBest 41 = .ok (.aload_n 0, 1) := by decide +kernel
theorem dX8_findBest_42 : decode cX8_findBest 42 = .ok (.getfield 42, 3) := by decide +kernel
theorem dX8_findBest_45 : decode cX8_findBest 45 = .ok (.getfield 63, 3) := by decide +kernel
theorem dX8_findBest_48 : decode cX8_findBest 48 = .ok (.invokevirtual 66, 3) := by decide +kernel
theorem dX8_findBest_51 : decode cX8_findBest 51 = .ok (.iconst 1, 1) := by decide +kernel
theorem dX8_findBest_52 : decode cX8_findBest 52 = .ok (.istore_n 1, 1) := by decide +kernel
theorem dX8_findBest_53 : decode cX8_findBest 53 = .ok (.aload_n 0, 1) := by decide +kernel
theorem dX8_findBest_54 : decode cX8_findBest 54 = .ok (.aload_n 0, 1) := by decide +kernel
theorem dX8_findBest_55 : decode cX8_findBest 55 = .ok (.getfield 33, 3) := by decide +kernel
theorem dX8_findBest_58 : decode cX8_findBest 58 = .ok (.aload_n 0, 1) := by decide +kernel
theorem dX8_findBest_59 : decode cX8_findBest 59 = .ok (.getfield 14, 3) := by decide +kernel
theorem dX8_findBest_62 : decode cX8_findBest 62 = .ok (.iconst 5, 1) := by decide +kernel
theorem dX8_findBest_63 : decode cX8_findBest 63 = .ok (.invokevirtual 70, 3) := by decide +kernel
theorem dX8_findBest_66 : decode cX8_findBest 66 = .ok (.iconst 1, 1) := by decide +kernel
theorem dX8_findBest_67 : decode cX8_findBest 67 = .ok (.isub, 1) := by decide +kernel
theorem dX8_findBest_68 : decode cX8_findBest 68 = .ok (.putfield 74, 3) := by decide +kernel
theorem dX8_findBest_71 : decode cX8_findBest 71 = .ok (.iinc 2 1, 3) := by decide +kernel
theorem dX8_findBest_74 : decode cX8_findBest 74 = .ok (.goto (-50), 3) := by decide +kernel
theorem dX8_findBest_77 : decode cX8_findBest 77 = .ok (.iload_n 1, 1) := by decide +kernel
theorem dX8_findBest_78 : decode cX8_findBest 78 = .ok (.ireturn, 1) := by decide +kernel
theorem dX8_bestFeatures_0 : decode cX8_bestFeatures 0 = .ok (.aload_n 0, 1) := by decide +kernel
theorem dX8_bestFeatures_1 : decode cX8_bestFeatures 1 = .ok (.getfield 42, 3) := by decide +kernel
theorem dX8_bestFeatures_4 : decode cX8_bestFeatures 4 = .ok (.getfield 63, 3) := by decide +kernel
theorem dX8_bestFeatures_7 : decode cX8_bestFeatures 7 = .ok (.aload_n 0, 1) := by decide +kernel
theorem dX8_bestFeatures_8 : decode cX8_bestFeatures 8 = .ok (.getfield 14, 3) := by decide +kernel
theorem dX8_bestFeatures_11 : decode cX8_bestFeatures 11 = .ok (.invokevirtual 66, 3) := by decide +kernel
theorem dX8_bestFeatures_14 : decode cX8_bestFeatures 14 = .ok (.aload_n 0, 1) := by decide +kernel
theorem dX8_bestFeatures_15 : decode cX8_bestFeatures 15 = .ok (.getfield 42, 3) := by decide +kernel
theorem dX8_bestFeatures_18 : decode cX8_bestFeatures 18 = .ok (.aload_n 0, 1) := by decide +kernel
theorem dX8_bestFeatures_19 : decode cX8_bestFeatures 19 = .ok (.getfield 78, 3) := by decide +kernel
theorem dX8_bestFeatures_22 : decode cX8_bestFeatures 22 = .ok (.invokevirtual 80, 3) := by decide +kernel
theorem dX8_bestFeatures_25 : decode cX8_bestFeatures 25 = .ok (.aload_n 0, 1) := by decide +kernel
theorem dX8_bestFeatures_26 : decode cX8_bestFeatures 26 = .ok (.getfield 42, 3) := by decide +kernel
theorem dX8_bestFeatures_29 : decode cX8_bestFeatures 29 = .ok (.getfield 83, 3) := by decide +kernel
theorem dX8_bestFeatures_32 : decode cX8_bestFeatures 32 = .ok (.iload_n 1, 1) := by decide +kernel
theorem dX8_bestFeatures_33 : decode cX8_bestFeatures 33 = .ok (.invokevirtual 86, 3) := by decide +kernel
theorem dX8_bestFeatures_36 : decode cX8_bestFeatures 36 = .ok (.ireturn, 1) := by decide +kernel
theorem dX8_isSolvable_0 : decode cX8_isSolvable 0 = .ok (.aload_n 0, 1) := by decide +kernel
theorem dX8_isSolvable_1 : decode cX8_isSolvable 1 = .ok (.iload_n 1, 1) := by decide +kernel
theorem dX8_isSolvable_2 : decode cX8_isSolvable 2 = .ok (.iconst (-1), 1) := by decide +kernel
theorem dX8_isSolvable_3 : decode cX8_isSolvable 3 = .ok (.invokevirtual 52, 3) := by decide +kernel
theorem dX8_isSolvable_6 : decode cX8_isSolvable 6 = .ok (.aload_n 0, 1) := by decide +kernel
theorem dX8_isSolvable_7 : decode cX8_isSolvable 7 = .ok (.invokevirtual 59, 3) := by decide +kernel
theorem dX8_isSolvable_10 : decode cX8_isSolvable 10 = .ok (.ireturn, 1) := by decide +kernel
theorem dX8_begin_0 : decode cX8_begin 0 = .ok (.aload_n 0, 1) := by decide +kernel
theorem dX8_begin_1 : decode cX8_begin 1 = .ok (.iload_n 1, 1) := by decide +kernel
theorem dX8_begin_2 : decode cX8_begin 2 = .ok (.putfield 78, 3) := by decide +kernel
theorem dX8_begin_5 : decode cX8_begin 5 = .ok (.aload_n 0, 1) := by decide +kernel
theorem dX8_begin_6 : decode cX8_begin 6 = .ok (.bipush 6, 2) := by decide +kernel
theorem dX8_begin_8 : decode cX8_begin 8 = .ok (.putfield 74, 3) := by decide +kernel
theorem dX8_begin_11 : decode cX8_begin 11 = .ok (.aload_n 0, 1) := by decide +kernel
theorem dX8_begin_12 : decode cX8_begin 12 = .ok (.iconst 0, 1) := by decide +kernel
theorem dX8_begin_13 : decode cX8_begin 13 = .ok (.putfield 90, 3) := by decide +kernel
theorem dX8_begin_16 : decode cX8_begin 16 = .ok (.aload_n 0, 1) := by decide +kernel
theorem dX8_begin_17 : decode cX8_begin 17 = .ok (.getfield 26, 3) := by decide +kernel
theorem dX8_begin_20 : decode cX8_begin 20 = .ok (.iconst 0, 1) := by decide +kernel
theorem dX8_begin_21 : decode cX8_begin 21 = .ok (.invokevirtual 55, 3) := by decide +kernel
theorem dX8_begin_24 : decode cX8_begin 24 = .ok (.aload_n 0, 1) := by decide +kernel
theorem dX8_begin_25 : decode cX8_begin 25 = .ok (.getfield 42, 3) := by decide +kernel
theorem dX8_begin_28 : decode cX8_begin 28 = .ok (.getfield 63, 3) := by decide +kernel
theorem dX8_begin_31 : decode cX8_begin 31 = .ok (.iconst (-1), 1) := by decide +kernel
theorem dX8_begin_32 : decode cX8_begin 32 = .ok (.invokevirtual 55, 3) := by decide +kernel
theorem dX8_begin_35 : decode cX8_begin 35 = .ok (.aload_n 0, 1) := by decide +kernel
theorem dX8_begin_36 : decode cX8_begin 36 = .ok (.getfield 29, 3) := by decide +kernel
theorem dX8_begin_39 : decode cX8_begin 39 = .ok (.invokevirtual 93, 3) := by decide +kernel
theorem dX8_begin_42 : decode cX8_begin 42 = .ok (.istore_n 3, 1) := by decide +kernel
theorem dX8_begin_43 : decode cX8_begin 43 = .ok (.aload_n 0, 1) := by decide +kernel
theorem dX8_begin_44 : decode cX8_begin 44 = .ok (.iload_n 3, 1) := by decide +kernel
theorem dX8_begin_45 : decode cX8_begin 45 = .ok (.invokevirtual 98, 3) := by decide +kernel
theorem dX8_begin_48 : decode cX8_begin 48 = .ok (.istore 4, 2) := by decide +kernel
theorem dX8_begin_50 : decode cX8_begin 50 = .ok (.iconst 0, 1) := by decide +kernel
theorem dX8_begin_51 : decode cX8_begin 51 = .ok (.istore 5, 2) := by decide +kernel
theorem dX8_begin_53 : decode cX8_begin 53 = .ok (.iload 5, 2) := by decide +kernel
theorem dX8_begin_55 : decode cX8_begin 55 = .ok (.bipush 6, 2) := by decide +kernel
theorem dX8_begin_57 : decode cX8_begin 57 = .ok (.if_icmp .ge 31, 3) := by decide +kernel
theorem dX8_begin_60 : decode cX8_begin 60 = .ok (.aload_n 0, 1) := by decide +kernel
theorem dX8_begin_61 : decode cX8_begin 61 = .ok (.iload 5, 2) := by decide +kernel
theorem dX8_begin_63 : decode cX8_begin 63 = .ok (.iload 4, 2) := by decide +kernel
theorem dX8_begin_65 : decode cX8_begin 65 = .ok (.iload 5, 2) := by decide +kernel
theorem dX8_begin_67 : decode cX8_begin 67 = .ok (.invokestatic 101, 3) := by decide +kernel
theorem dX8_begin_70 : decode cX8_begin 70 = .ok (.ifCond .eq 7, 3) := by decide +kernel
theorem dX8_begin_73 : decode cX8_begin 73 = .ok (.iload_n 3, 1) := by decide +kernel
theorem dX8_begin_74 : decode cX8_begin 74 = .ok (.goto 4, 3) := by decide +kernel
theorem dX8_begin_77 : decode cX8_begin 77 = .ok (.iconst 0, 1) := by decide +kernel
theorem dX8_begin_78 : decode cX8_begin 78 = .ok (.iload_n 2, 1) := by decide +kernel
theorem dX8_begin_79 : decode cX8_begin 79 = .ok (.invokevirtual 105, 3) := by decide +kernel
theorem dX8_begin_82 : decode cX8_begin 82 = .ok (.iinc 5 1, 3) := by decide +kernel
theorem dX8_begin_85 : decode cX8_begin 85 = .ok (.goto (-32), 3) := by decide +kernel
theorem dX8_begin_88 : decode cX8_begin 88 = .ok (.return_, 1) := by decide +kernel
theorem dX8_offerAll_0 : decode cX8_offerAll 0 = .ok (.aload_n 0, 1) := by decide +kernel
theorem dX8_offerAll_1 : decode cX8_offerAll 1 = .ok (.getfield 29, 3) := by decide +kernel
theorem dX8_offerAll_4 : decode cX8_offerAll 4 = .ok (.getfield 109, 3) := by decide +kernel
theorem dX8_offerAll_7 : decode cX8_offerAll 7 = .ok (.getfield 113, 3) := by decide +kernel
theorem dX8_offerAll_10 : decode cX8_offerAll 10 = .ok (.iload_n 3, 1) := by decide +kernel
theorem dX8_offerAll_11 : decode cX8_offerAll 11 = .ok (.invokevirtual 86, 3) := by decide +kernel
theorem dX8_offerAll_14 : decode cX8_offerAll 14 = .ok (.iload_n 1, 1) := by decide +kernel
theorem dX8_offerAll_15 : decode cX8_offerAll 15 = .ok (.if_icmp .ne 7, 3) := by decide +kernel
theorem dX8_offerAll_18 : decode cX8_offerAll 18 = .ok (.iconst 1, 1) := by decide +kernel
theorem dX8_offerAll_19 : decode cX8_offerAll 19 = .ok (.goto 4, 3) := by decide +kernel
theorem dX8_offerAll_22 : decode cX8_offerAll 22 = .ok (.iconst 0, 1) := by decide +kernel
theorem dX8_offerAll_23 : decode cX8_offerAll 23 = .ok (.istore 4, 2) := by decide +kernel
theorem dX8_offerAll_25 : decode cX8_offerAll 25 = .ok (.aload_n 0, 1) := by decide +kernel
theorem dX8_offerAll_26 : decode cX8_offerAll 26 = .ok (.getfield 23, 3) := by decide +kernel
theorem dX8_offerAll_29 : decode cX8_offerAll 29 = .ok (.iload_n 1, 1) := by decide +kernel
theorem dX8_offerAll_30 : decode cX8_offerAll 30 = .ok (.iconst 0, 1) := by decide +kernel
theorem dX8_offerAll_31 : decode cX8_offerAll 31 = .ok (.invokevirtual 118, 3) := by decide +kernel
theorem dX8_offerAll_34 : decode cX8_offerAll 34 = .ok (.iconst 0, 1) := by decide +kernel
theorem dX8_offerAll_35 : decode cX8_offerAll 35 = .ok (.istore 5, 2) := by decide +kernel
theorem dX8_offerAll_37 : decode cX8_offerAll 37 = .ok (.iload 5, 2) := by decide +kernel
theorem dX8_offerAll_39 : decode cX8_offerAll 39 = .ok (.iconst 4, 1) := by decide +kernel
theorem dX8_offerAll_40 : decode cX8_offerAll 40 = .ok (.if_icmp .ge 67, 3) := by decide +kernel
theorem dX8_offerAll_43 : decode cX8_offerAll 43 = .ok (.aload_n 0, 1) := by decide +kernel
theorem dX8_offerAll_44 : decode cX8_offerAll 44 = .ok (.getfield 29, 3) := by decide +kernel
theorem dX8_offerAll_47 : decode cX8_offerAll 47 = .ok (.getfield 109, 3) := by decide +kernel
theorem dX8_offerAll_50 : decode cX8_offerAll 50 = .ok (.iload_n 1, 1) := by decide +kernel
theorem dX8_offerAll_51 : decode cX8_offerAll 51 = .ok (.iload 5, 2) := by decide +kernel
theorem dX8_offerAll_53 : decode cX8_offerAll 53 = .ok (.invokevirtual 121, 3) := by decide +kernel
theorem dX8_offerAll_56 : decode cX8_offerAll 56 = .ok (.istore 6, 2) := by decide +kernel
theorem dX8_offerAll_58 : decode cX8_offerAll 58 = .ok (.iload_n 2, 1) := by decide +kernel
theorem dX8_offerAll_59 : decode cX8_offerAll 59 = .ok (.iload 6, 2) := by decide +kernel
theorem dX8_offerAll_61 : decode cX8_offerAll 61 = .ok (.invokestatic 101, 3) := by decide +kernel
theorem dX8_offerAll_64 : decode cX8_offerAll 64 = .ok (.ifCond .eq 37, 3) := by decide +kernel
theorem dX8_offerAll_67 : decode cX8_offerAll 67 = .ok (.iload 4, 2) := by decide +kernel
theorem dX8_offerAll_69 : decode cX8_offerAll 69 = .ok (.ifCond .eq 9, 3) := by decide +kernel
theorem dX8_offerAll_72 : decode cX8_offerAll 72 = .ok (.iload 6, 2) := by decide +kernel
theorem dX8_offerAll_74 : decode cX8_offerAll 74 = .ok (.iload_n 3, 1) := by decide +kernel
theorem dX8_offerAll_75 : decode cX8_offerAll 75 = .ok (.if_icmp .ne 26, 3) := by decide +kernel
theorem dX8_offerAll_78 : decode cX8_offerAll 78 = .ok (.aload_n 0, 1) := by decide +kernel
theorem dX8_offerAll_79 : decode cX8_offerAll 79 = .ok (.getfield 29, 3) := by decide +kernel
theorem dX8_offerAll_82 : decode cX8_offerAll 82 = .ok (.aload_n 0, 1) := by decide +kernel
theorem dX8_offerAll_83 : decode cX8_offerAll 83 = .ok (.getfield 78, 3) := by decide +kernel
theorem dX8_offerAll_86 : decode cX8_offerAll 86 = .ok (.iload 6, 2) := by decide +kernel
theorem dX8_offerAll_88 : decode cX8_offerAll 88 = .ok (.invokevirtual 125, 3) := by decide +kernel
theorem dX8_offerAll_91 : decode cX8_offerAll 91 = .ok (.ifCond .ne 10, 3) := by decide +kernel
theorem dX8_offerAll_94 : decode cX8_offerAll 94 = .ok (.aload_n 0, 1) := by decide +kernel
theorem dX8_offerAll_95 : decode cX8_offerAll 95 = .ok (.iload_n 1, 1) := by decide +kernel
theorem dX8_offerAll_96 : decode cX8_offerAll 96 = .ok (.iload 6, 2) := by decide +kernel
theorem dX8_offerAll_98 : decode cX8_offerAll 98 = .ok (.invokevirtual 128, 3) := by decide +kernel
theorem dX8_offerAll_101 : decode cX8_offerAll 101 = .ok (.iinc 5 1, 3) := by decide +kernel
theorem dX8_offerAll_104 : decode cX8_offerAll 104 = .ok (.goto (-67), 3) := by decide +kernel
theorem dX8_offerAll_107 : decode cX8_offerAll 107 = .ok (.iload 4, 2) := by decide +kernel
theorem dX8_offerAll_109 : decode cX8_offerAll 109 = .ok (.ifCond .ne 27, 3) := by decide +kernel
theorem dX8_offerAll_112 : decode cX8_offerAll 112 = .ok (.aload_n 0, 1) := by decide +kernel
theorem dX8_offerAll_113 : decode cX8_offerAll 113 = .ok (.getfield 29, 3) := by decide +kernel
theorem dX8_offerAll_116 : decode cX8_offerAll 116 = .ok (.aload_n 0, 1) := by decide +kernel
theorem dX8_offerAll_117 : decode cX8_offerAll 117 = .ok (.getfield 78, 3) := by decide +kernel
theorem dX8_offerAll_120 : decode cX8_offerAll 120 = .ok (.invokevirtual 131, 3) := by decide +kernel
theorem dX8_offerAll_123 : decode cX8_offerAll 123 = .ok (.iload_n 1, 1) := by decide +kernel
theorem dX8_offerAll_124 : decode cX8_offerAll 124 = .ok (.invokestatic 101, 3) := by decide +kernel
theorem dX8_offerAll_127 : decode cX8_offerAll 127 = .ok (.ifCond .ne 9, 3) := by decide +kernel
theorem dX8_offerAll_130 : decode cX8_offerAll 130 = .ok (.aload_n 0, 1) := by decide +kernel
theorem dX8_offerAll_131 : decode cX8_offerAll 131 = .ok (.iload_n 1, 1) := by decide +kernel
theorem dX8_offerAll_132 : decode cX8_offerAll 132 = .ok (.iconst (-1), 1) := by decide +kernel
theorem dX8_offerAll_133 : decode cX8_offerAll 133 = .ok (.invokevirtual 128, 3) := by decide +kernel
theorem dX8_offerAll_136 : decode cX8_offerAll 136 = .ok (.return_, 1) := by decide +kernel
theorem dX8_offer_0 : decode cX8_offer 0 = .ok (.iload_n 1, 1) := by decide +kernel
theorem dX8_offer_1 : decode cX8_offer 1 = .ok (.iconst 5, 1) := by decide +kernel
theorem dX8_offer_2 : decode cX8_offer 2 = .ok (.imul, 1) := by decide +kernel
theorem dX8_offer_3 : decode cX8_offer 3 = .ok (.aload_n 0, 1) := by decide +kernel
theorem dX8_offer_4 : decode cX8_offer 4 = .ok (.getfield 23, 3) := by decide +kernel
theorem dX8_offer_7 : decode cX8_offer 7 = .ok (.iload_n 1, 1) := by decide +kernel
theorem dX8_offer_8 : decode cX8_offer 8 = .ok (.invokevirtual 86, 3) := by decide +kernel
theorem dX8_offer_11 : decode cX8_offer 11 = .ok (.iadd, 1) := by decide +kernel
theorem dX8_offer_12 : decode cX8_offer 12 = .ok (.istore_n 3, 1) := by decide +kernel
theorem dX8_offer_13 : decode cX8_offer 13 = .ok (.iload_n 1, 1) := by decide +kernel
theorem dX8_offer_14 : decode cX8_offer 14 = .ok (.iconst 5, 1) := by decide +kernel
theorem dX8_offer_15 : decode cX8_offer 15 = .ok (.imul, 1) := by decide +kernel
theorem dX8_offer_16 : decode cX8_offer 16 = .ok (.istore 4, 2) := by decide +kernel
theorem dX8_offer_18 : decode cX8_offer 18 = .ok (.aload_n 0, 1) := by decide +kernel
theorem dX8_offer_19 : decode cX8_offer 19 = .ok (.getfield 33, 3) := by decide +kernel
theorem dX8_offer_22 : decode cX8_offer 22 = .ok (.iload_n 1, 1) := by decide +kernel
theorem dX8_offer_23 : decode cX8_offer 23 = .ok (.iload_n 2, 1) := by decide +kernel
theorem dX8_offer_24 : decode cX8_offer 24 = .ok (.invokevirtual 134, 3) := by decide +kernel
theorem dX8_offer_27 : decode cX8_offer 27 = .ok (.istore 5, 2) := by decide +kernel
theorem dX8_offer_29 : decode cX8_offer 29 = .ok (.iload_n 3, 1) := by decide +kernel
theorem dX8_offer_30 : decode cX8_offer 30 = .ok (.iload 4, 2) := by decide +kernel
theorem dX8_offer_32 : decode cX8_offer 32 = .ok (.if_icmp .le 50, 3) := by decide +kernel
theorem dX8_offer_35 : decode cX8_offer 35 = .ok (.aload_n 0, 1) := by decide +kernel
theorem dX8_offer_36 : decode cX8_offer 36 = .ok (.getfield 33, 3) := by decide +kernel
theorem dX8_offer_39 : decode cX8_offer 39 = .ok (.iload_n 1, 1) := by decide +kernel
theorem dX8_offer_40 : decode cX8_offer 40 = .ok (.aload_n 0, 1) := by decide +kernel
theorem dX8_offer_41 : decode cX8_offer 41 = .ok (.getfield 20, 3) := by decide +kernel
theorem dX8_offer_44 : decode cX8_offer 44 = .ok (.iload_n 3, 1) := by decide +kernel
theorem dX8_offer_45 : decode cX8_offer 45 = .ok (.iconst 1, 1) := by decide +kernel
theorem dX8_offer_46 : decode cX8_offer 46 = .ok (.isub, 1) := by decide +kernel
theorem dX8_offer_47 : decode cX8_offer 47 = .ok (.invokevirtual 86, 3) := by decide +kernel
theorem dX8_offer_50 : decode cX8_offer 50 = .ok (.invokevirtual 134, 3) := by decide +kernel
theorem dX8_offer_53 : decode cX8_offer 53 = .ok (.iload 5, 2) := by decide +kernel
theorem dX8_offer_55 : decode cX8_offer 55 = .ok (.if_icmp .ge 27, 3) := by decide +kernel
theorem dX8_offer_58 : decode cX8_offer 58 = .ok (.aload_n 0, 1) := by decide +kernel
theorem dX8_offer_59 : decode cX8_offer 59 = .ok (.getfield 20, 3) := by decide +kernel
theorem dX8_offer_62 : decode cX8_offer 62 = .ok (.iload_n 3, 1) := by decide +kernel
theorem dX8_offer_63 : decode cX8_offer 63 = .ok (.aload_n 0, 1) := by decide +kernel
theorem dX8_offer_64 : decode cX8_offer 64 = .ok (.getfield 20, 3) := by decide +kernel
theorem dX8_offer_67 : decode cX8_offer 67 = .ok (.iload_n 3, 1) := by decide +kernel
theorem dX8_offer_68 : decode cX8_offer 68 = .ok (.iconst 1, 1) := by decide +kernel
theorem dX8_offer_69 : decode cX8_offer 69 = .ok (.isub, 1) := by decide +kernel
theorem dX8_offer_70 : decode cX8_offer 70 = .ok (.invokevirtual 86, 3) := by decide +kernel
theorem dX8_offer_73 : decode cX8_offer 73 = .ok (.invokevirtual 118, 3) := by decide +kernel
theorem dX8_offer_76 : decode cX8_offer 76 = .ok (.iinc 3 (-1), 3) := by decide +kernel
theorem dX8_offer_79 : decode cX8_offer 79 = .ok (.goto (-50), 3) := by decide +kernel
theorem dX8_offer_82 : decode cX8_offer 82 = .ok (.aload_n 0, 1) := by decide +kernel
theorem dX8_offer_83 : decode cX8_offer 83 = .ok (.getfield 20, 3) := by decide +kernel
theorem dX8_offer_86 : decode cX8_offer 86 = .ok (.iload_n 3, 1) := by decide +kernel
theorem dX8_offer_87 : decode cX8_offer 87 = .ok (.iload_n 2, 1) := by decide +kernel
theorem dX8_offer_88 : decode cX8_offer 88 = .ok (.invokevirtual 118, 3) := by decide +kernel
theorem dX8_offer_91 : decode cX8_offer 91 = .ok (.aload_n 0, 1) := by decide +kernel
theorem dX8_offer_92 : decode cX8_offer 92 = .ok (.getfield 23, 3) := by decide +kernel
theorem dX8_offer_95 : decode cX8_offer 95 = .ok (.iload_n 1, 1) := by decide +kernel
theorem dX8_offer_96 : decode cX8_offer 96 = .ok (.aload_n 0, 1) := by decide +kernel
theorem dX8_offer_97 : decode cX8_offer 97 = .ok (.getfield 23, 3) := by decide +kernel
theorem dX8_offer_100 : decode cX8_offer 100 = .ok (.iload_n 1, 1) := by decide +kernel
theorem dX8_offer_101 : decode cX8_offer 101 = .ok (.invokevirtual 86, 3) := by decide +kernel
theorem dX8_offer_104 : decode cX8_offer 104 = .ok (.iconst 1, 1) := by decide +kernel
theorem dX8_offer_105 : decode cX8_offer 105 = .ok (.iadd, 1) := by decide +kernel
theorem dX8_offer_106 : decode cX8_offer 106 = .ok (.invokevirtual 118, 3) := by decide +kernel
theorem dX8_offer_109 : decode cX8_offer 109 = .ok (.return_, 1) := by decide +kernel
theorem dX8_reachable_0 : decode cX8_reachable 0 = .ok (.aload_n 0, 1) := by decide +kernel
theorem dX8_reachable_1 : decode cX8_reachable 1 = .ok (.getfield 29, 3) := by decide +kernel
theorem dX8_reachable_4 : decode cX8_reachable 4 = .ok (.aload_n 0, 1) := by decide +kernel
theorem dX8_reachable_5 : decode cX8_reachable 5 = .ok (.getfield 78, 3) := by decide +kernel
theorem dX8_reachable_8 : decode cX8_reachable 8 = .ok (.invokevirtual 131, 3) := by decide +kernel
theorem dX8_reachable_11 : decode cX8_reachable 11 = .ok (.istore_n 2, 1) := by decide +kernel
theorem dX8_reachable_12 : decode cX8_reachable 12 = .ok (.iconst 0, 1) := by decide +kernel
theorem dX8_reachable_13 : decode cX8_reachable 13 = .ok (.istore_n 3, 1) := by decide +kernel
theorem dX8_reachable_14 : decode cX8_reachable 14 = .ok (.iload_n 3, 1) := by decide +kernel
theorem dX8_reachable_15 : decode cX8_reachable 15 = .ok (.bipush 6, 2) := by decide +kernel
theorem dX8_reachable_17 : decode cX8_reachable 17 = .ok (.if_icmp .ge 78, 3) := by decide +kernel
theorem dX8_reachable_20 : decode cX8_reachable 20 = .ok (.iconst 0, 1) := by decide +kernel
theorem dX8_reachable_21 : decode cX8_reachable 21 = .ok (.istore 4, 2) := by decide +kernel
theorem dX8_reachable_23 : decode cX8_reachable 23 = .ok (.iload 4, 2) := by decide +kernel
theorem dX8_reachable_25 : decode cX8_reachable 25 = .ok (.aload_n 0, 1) := by decide +kernel
theorem dX8_reachable_26 : decode cX8_reachable 26 = .ok (.getfield 29, 3) := by decide +kernel
theorem dX8_reachable_29 : decode cX8_reachable 29 = .ok (.getfield 109, 3) := by decide +kernel
theorem dX8_reachable_32 : decode cX8_reachable 32 = .ok (.getfield 137, 3) := by decide +kernel
theorem dX8_reachable_35 : decode cX8_reachable 35 = .ok (.if_icmp .ge 54, 3) := by decide +kernel
theorem dX8_reachable_38 : decode cX8_reachable 38 = .ok (.iload_n 1, 1) := by decide +kernel
theorem dX8_reachable_39 : decode cX8_reachable 39 = .ok (.iload 4, 2) := by decide +kernel
theorem dX8_reachable_41 : decode cX8_reachable 41 = .ok (.invokestatic 101, 3) := by decide +kernel
theorem dX8_reachable_44 : decode cX8_reachable 44 = .ok (.ifCond .eq 39, 3) := by decide +kernel
theorem dX8_reachable_47 : decode cX8_reachable 47 = .ok (.iload_n 2, 1) := by decide +kernel
theorem dX8_reachable_48 : decode cX8_reachable 48 = .ok (.aload_n 0, 1) := by decide +kernel
theorem dX8_reachable_49 : decode cX8_reachable 49 = .ok (.getfield 29, 3) := by decide +kernel
theorem dX8_reachable_52 : decode cX8_reachable 52 = .ok (.getfield 109, 3) := by decide +kernel
theorem dX8_reachable_55 : decode cX8_reachable 55 = .ok (.getfield 113, 3) := by decide +kernel
theorem dX8_reachable_58 : decode cX8_reachable 58 = .ok (.iload 4, 2) := by decide +kernel
theorem dX8_reachable_60 : decode cX8_reachable 60 = .ok (.invokevirtual 86, 3) := by decide +kernel
theorem dX8_reachable_63 : decode cX8_reachable 63 = .ok (.invokestatic 101, 3) := by decide +kernel
theorem dX8_reachable_66 : decode cX8_reachable 66 = .ok (.ifCond .eq 17, 3) := by decide +kernel
theorem dX8_reachable_69 : decode cX8_reachable 69 = .ok (.iload_n 2, 1) := by decide +kernel
theorem dX8_reachable_70 : decode cX8_reachable 70 = .ok (.aload_n 0, 1) := by decide +kernel
theorem dX8_reachable_71 : decode cX8_reachable 71 = .ok (.getfield 29, 3) := by decide +kernel
theorem dX8_reachable_74 : decode cX8_reachable 74 = .ok (.iload 4, 2) := by decide +kernel
theorem dX8_reachable_76 : decode cX8_reachable 76 = .ok (.bipush 7, 2) := by decide +kernel
theorem dX8_reachable_78 : decode cX8_reachable 78 = .ok (.invokevirtual 140, 3) := by decide +kernel
theorem dX8_reachable_81 : decode cX8_reachable 81 = .ok (.ior, 1) := by decide +kernel
theorem dX8_reachable_82 : decode cX8_reachable 82 = .ok (.istore_n 2, 1) := by decide +kernel
theorem dX8_reachable_83 : decode cX8_reachable 83 = .ok (.iinc 4 1, 3) := by decide +kernel
theorem dX8_reachable_86 : decode cX8_reachable 86 = .ok (.goto (-63), 3) := by decide +kernel
theorem dX8_reachable_89 : decode cX8_reachable 89 = .ok (.iinc 3 1, 3) := by decide +kernel
theorem dX8_reachable_92 : decode cX8_reachable 92 = .ok (.goto (-78), 3) := by decide +kernel
theorem dX8_reachable_95 : decode cX8_reachable 95 = .ok (.iload_n 2, 1) := by decide +kernel
theorem dX8_reachable_96 : decode cX8_reachable 96 = .ok (.ireturn, 1) := by decide +kernel
theorem dX8_next_0 : decode cX8_next 0 = .ok (.iconst 0, 1) := by decide +kernel
theorem dX8_next_1 : decode cX8_next 1 = .ok (.istore_n 1, 1) := by decide +kernel
theorem dX8_next_2 : decode cX8_next 2 = .ok (.iload_n 1, 1) := by decide +kernel
theorem dX8_next_3 : decode cX8_next 3 = .ok (.ldc 143, 2) := by decide +kernel
theorem dX8_next_5 : decode cX8_next 5 = .ok (.if_icmp .ge 141, 3) := by decide +kernel
theorem dX8_next_8 : decode cX8_next 8 = .ok (.aload_n 0, 1) := by decide +kernel
theorem dX8_next_9 : decode cX8_next 9 = .ok (.getfield 90, 3) := by decide +kernel
theorem dX8_next_12 : decode cX8_next 12 = .ok (.ifCond .lt 134, 3) := by decide +kernel
theorem dX8_next_15 : decode cX8_next 15 = .ok (.aload_n 0, 1) := by decide +kernel
theorem dX8_next_16 : decode cX8_next 16 = .ok (.invokevirtual 144, 3) := by decide +kernel
theorem dX8_next_19 : decode cX8_next 19 = .ok (.ifCond .ne 16, 3) := by decide +kernel
theorem dX8_next_22 : decode cX8_next 22 = .ok (.aload_n 0, 1) := by decide +kernel
theorem dX8_next_23 : decode cX8_next 23 = .ok (.dup, 1) := by decide +kernel
theorem dX8_next_24 : decode cX8_next 24 = .ok (.getfield 90, 3) := by decide +kernel
theorem dX8_next_27 : decode cX8_next 27 = .ok (.iconst 1, 1) := by decide +kernel
theorem dX8_next_28 : decode cX8_next 28 = .ok (.isub, 1) := by decide +kernel
theorem dX8_next_29 : decode cX8_next 29 = .ok (.putfield 90, 3) := by decide +kernel
theorem dX8_next_32 : decode cX8_next 32 = .ok (.goto 108, 3) := by decide +kernel
theorem dX8_next_35 : decode cX8_next 35 = .ok (.aload_n 0, 1) := by decide +kernel
theorem dX8_next_36 : decode cX8_next 36 = .ok (.getfield 33, 3) := by decide +kernel
theorem dX8_next_39 : decode cX8_next 39 = .ok (.aload_n 0, 1) := by decide +kernel
theorem dX8_next_40 : decode cX8_next 40 = .ok (.getfield 42, 3) := by decide +kernel
theorem dX8_next_43 : decode cX8_next 43 = .ok (.getfield 63, 3) := by decide +kernel
theorem dX8_next_46 : decode cX8_next 46 = .ok (.aload_n 0, 1) := by decide +kernel
theorem dX8_next_47 : decode cX8_next 47 = .ok (.getfield 90, 3) := by decide +kernel
theorem dX8_next_50 : decode cX8_next 50 = .ok (.invokevirtual 70, 3) := by decide +kernel
theorem dX8_next_53 : decode cX8_next 53 = .ok (.aload_n 0, 1) := by decide +kernel
theorem dX8_next_54 : decode cX8_next 54 = .ok (.getfield 74, 3) := by decide +kernel
theorem dX8_next_57 : decode cX8_next 57 = .ok (.if_icmp .le 6, 3) := by decide +kernel
theorem dX8_next_60 : decode cX8_next 60 = .ok (.goto 80, 3) := by decide +kernel
theorem dX8_next_63 : decode cX8_next 63 = .ok (.aload_n 0, 1) := by decide +kernel
theorem dX8_next_64 : decode cX8_next 64 = .ok (.getfield 42, 3) := by decide +kernel
theorem dX8_next_67 : decode cX8_next 67 = .ok (.aload_n 0, 1) := by decide +kernel
theorem dX8_next_68 : decode cX8_next 68 = .ok (.getfield 78, 3) := by decide +kernel
theorem dX8_next_71 : decode cX8_next 71 = .ok (.invokevirtual 80, 3) := by decide +kernel
theorem dX8_next_74 : decode cX8_next 74 = .ok (.aload_n 0, 1) := by decide +kernel
theorem dX8_next_75 : decode cX8_next 75 = .ok (.getfield 42, 3) := by decide +kernel
theorem dX8_next_78 : decode cX8_next 78 = .ok (.aload_n 0, 1) := by decide +kernel
theorem dX8_next_79 : decode cX8_next 79 = .ok (.getfield 90, 3) := by decide +kernel
theorem dX8_next_82 : decode cX8_next 82 = .ok (.invokevirtual 147, 3) := by decide +kernel
theorem dX8_next_85 : decode cX8_next 85 = .ok (.ifCond .ne 6, 3) := by decide +kernel
theorem dX8_next_88 : decode cX8_next 88 = .ok (.goto 52, 3) := by decide +kernel
theorem dX8_next_91 : decode cX8_next 91 = .ok (.aload_n 0, 1) := by decide +kernel
theorem dX8_next_92 : decode cX8_next 92 = .ok (.getfield 90, 3) := by decide +kernel
theorem dX8_next_95 : decode cX8_next 95 = .ok (.iconst 5, 1) := by decide +kernel
theorem dX8_next_96 : decode cX8_next 96 = .ok (.if_icmp .ge 28, 3) := by decide +kernel
theorem dX8_next_99 : decode cX8_next 99 = .ok (.aload_n 0, 1) := by decide +kernel
theorem dX8_next_100 : decode cX8_next 100 = .ok (.dup, 1) := by decide +kernel
theorem dX8_next_101 : decode cX8_next 101 = .ok (.getfield 90, 3) := by decide +kernel
theorem dX8_next_104 : decode cX8_next 104 = .ok (.iconst 1, 1) := by decide +kernel
theorem dX8_next_105 : decode cX8_next 105 = .ok (.iadd, 1) := by decide +kernel
theorem dX8_next_106 : decode cX8_next 106 = .ok (.putfield 90, 3) := by decide +kernel
theorem dX8_next_109 : decode cX8_next 109 = .ok (.aload_n 0, 1) := by decide +kernel
theorem dX8_next_110 : decode cX8_next 110 = .ok (.getfield 26, 3) := by decide +kernel
theorem dX8_next_113 : decode cX8_next 113 = .ok (.aload_n 0, 1) := by decide +kernel
theorem dX8_next_114 : decode cX8_next 114 = .ok (.getfield 90, 3) := by decide +kernel
theorem dX8_next_117 : decode cX8_next 117 = .ok (.iconst 0, 1) := by decide +kernel
theorem dX8_next_118 : decode cX8_next 118 = .ok (.invokevirtual 118, 3) := by decide +kernel
theorem dX8_next_121 : decode cX8_next 121 = .ok (.goto 19, 3) := by decide +kernel
theorem dX8_next_124 : decode cX8_next 124 = .ok (.aload_n 0, 1) := by decide +kernel
theorem dX8_next_125 : decode cX8_next 125 = .ok (.getfield 42, 3) := by decide +kernel
theorem dX8_next_128 : decode cX8_next 128 = .ok (.aload_n 0, 1) := by decide +kernel
theorem dX8_next_129 : decode cX8_next 129 = .ok (.getfield 78, 3) := by decide +kernel
theorem dX8_next_132 : decode cX8_next 132 = .ok (.invokevirtual 151, 3) := by decide +kernel
theorem dX8_next_135 : decode cX8_next 135 = .ok (.ifCond .eq 5, 3) := by decide +kernel
theorem dX8_next_138 : decode cX8_next 138 = .ok (.iconst 1, 1) := by decide +kernel
theorem dX8_next_139 : decode cX8_next 139 = .ok (.ireturn, 1) := by decide +kernel
theorem dX8_next_140 : decode cX8_next 140 = .ok (.iinc 1 1, 3) := by decide +kernel
theorem dX8_next_143 : decode cX8_next 143 = .ok (.goto (-141), 3) := by decide +kernel
theorem dX8_next_146 : decode cX8_next 146 = .ok (.iconst 0, 1) := by decide +kernel
theorem dX8_next_147 : decode cX8_next 147 = .ok (.ireturn, 1) := by decide +kernel
theorem dX8_pickNext_0 : decode cX8_pickNext 0 = .ok (.aload_n 0, 1) := by decide +kernel
theorem dX8_pickNext_1 : decode cX8_pickNext 1 = .ok (.getfield 26, 3) := by decide +kernel
theorem dX8_pickNext_4 : decode cX8_pickNext 4 = .ok (.aload_n 0, 1) := by decide +kernel
theorem dX8_pickNext_5 : decode cX8_pickNext 5 = .ok (.getfield 90, 3) := by decide +kernel
theorem dX8_pickNext_8 : decode cX8_pickNext 8 = .ok (.invokevirtual 86, 3) := by decide +kernel
theorem dX8_pickNext_11 : decode cX8_pickNext 11 = .ok (.istore_n 1, 1) := by decide +kernel
theorem dX8_pickNext_12 : decode cX8_pickNext 12 = .ok (.iload_n 1, 1) := by decide +kernel
theorem dX8_pickNext_13 : decode cX8_pickNext 13 = .ok (.aload_n 0, 1) := by decide +kernel
theorem dX8_pickNext_14 : decode cX8_pickNext 14 = .ok (.getfield 23, 3) := by decide +kernel
theorem dX8_pickNext_17 : decode cX8_pickNext 17 = .ok (.aload_n 0, 1) := by decide +kernel
theorem dX8_pickNext_18 : decode cX8_pickNext 18 = .ok (.getfield 90, 3) := by decide +kernel
theorem dX8_pickNext_21 : decode cX8_pickNext 21 = .ok (.invokevirtual 86, 3) := by decide +kernel
theorem dX8_pickNext_24 : decode cX8_pickNext 24 = .ok (.if_icmp .ge 7, 3) := by decide +kernel
theorem dX8_pickNext_27 : decode cX8_pickNext 27 = .ok (.iconst 1, 1) := by decide +kernel
theorem dX8_pickNext_28 : decode cX8_pickNext 28 = .ok (.goto 4, 3) := by decide +kernel
theorem dX8_pickNext_31 : decode cX8_pickNext 31 = .ok (.iconst 0, 1) := by decide +kernel
theorem dX8_pickNext_32 : decode cX8_pickNext 32 = .ok (.istore_n 2, 1) := by decide +kernel
theorem dX8_pickNext_33 : decode cX8_pickNext 33 = .ok (.aload_n 0, 1) := by decide +kernel
theorem dX8_pickNext_34 : decode cX8_pickNext 34 = .ok (.getfield 42, 3) := by decide +kernel
theorem dX8_pickNext_37 : decode cX8_pickNext 37 = .ok (.getfield 63, 3) := by decide +kernel
theorem dX8_pickNext_40 : decode cX8_pickNext 40 = .ok (.aload_n 0, 1) := by decide +kernel
theorem dX8_pickNext_41 : decode cX8_pickNext 41 = .ok (.getfield 90, 3) := by decide +kernel
theorem dX8_pickNext_44 : decode cX8_pickNext 44 = .ok (.iload_n 2, 1) := by decide +kernel
theorem dX8_pickNext_45 : decode cX8_pickNext 45 = .ok (.ifCond .eq 21, 3) := by decide +kernel
theorem dX8_pickNext_48 : decode cX8_pickNext 48 = .ok (.aload_n 0, 1) := by decide +kernel
theorem dX8_pickNext_49 : decode cX8_pickNext 49 = .ok (.getfield 20, 3) := by decide +kernel
theorem dX8_pickNext_52 : decode cX8_pickNext 52 = .ok (.aload_n 0, 1) := by decide +kernel
theorem dX8_pickNext_53 : decode cX8_pickNext 53 = .ok (.getfield 90, 3) := by decide +kernel
theorem dX8_pickNext_56 : decode cX8_pickNext 56 = .ok (.iconst 5, 1) := by decide +kernel
theorem dX8_pickNext_57 : decode cX8_pickNext 57 = .ok (.imul, 1) := by decide +kernel
theorem dX8_pickNext_58 : decode cX8_pickNext 58 = .ok (.iload_n 1, 1) := by decide +kernel
theorem dX8_pickNext_59 : decode cX8_pickNext 59 = .ok (.iadd, 1) := by decide +kernel
theorem dX8_pickNext_60 : decode cX8_pickNext 60 = .ok (.invokevirtual 86, 3) := by decide +kernel
theorem dX8_pickNext_63 : decode cX8_pickNext 63 = .ok (.goto 4, 3) := by decide +kernel
theorem dX8_pickNext_66 : decode cX8_pickNext 66 = .ok (.iconst (-1), 1) := by decide +kernel
theorem dX8_pickNext_67 : decode cX8_pickNext 67 = .ok (.invokevirtual 118, 3) := by decide +kernel
theorem dX8_pickNext_70 : decode cX8_pickNext 70 = .ok (.aload_n 0, 1) := by decide +kernel
theorem dX8_pickNext_71 : decode cX8_pickNext 71 = .ok (.getfield 26, 3) := by decide +kernel
theorem dX8_pickNext_74 : decode cX8_pickNext 74 = .ok (.aload_n 0, 1) := by decide +kernel
theorem dX8_pickNext_75 : decode cX8_pickNext 75 = .ok (.getfield 90, 3) := by decide +kernel
theorem dX8_pickNext_78 : decode cX8_pickNext 78 = .ok (.iload_n 1, 1) := by decide +kernel
theorem dX8_pickNext_79 : decode cX8_pickNext 79 = .ok (.iconst 1, 1) := by decide +kernel
theorem dX8_pickNext_80 : decode cX8_pickNext 80 = .ok (.iadd, 1) := by decide +kernel
theorem dX8_pickNext_81 : decode cX8_pickNext 81 = .ok (.invokevirtual 118, 3) := by decide +kernel
theorem dX8_pickNext_84 : decode cX8_pickNext 84 = .ok (.iload_n 2, 1) := by decide +kernel
theorem dX8_pickNext_85 : decode cX8_pickNext 85 = .ok (.ireturn, 1) := by decide +kernel
theorem dX9_init_0 : decode cX9_init 0 = .ok (.aload_n 0, 1) := by decide +kernel
theorem dX9_init_1 : decode cX9_init 1 = .ok (.invokespecial 3, 3) := by decide +kernel
theorem dX9_init_4 : decode cX9_init 4 = .ok (.aload_n 0, 1) := by decide +kernel
theorem dX9_init_5 : decode cX9_init 5 = .ok (.new 9, 3) := by decide +kernel
theorem dX9_init_8 : decode cX9_init 8 = .ok (.dup, 1) := by decide +kernel
theorem dX9_init_9 : decode cX9_init 9 = .ok (.bipush 24, 2) := by decide +kernel
theorem dX9_init_11 : decode cX9_init 11 = .ok (.iconst (-1), 1) := by decide +kernel
theorem dX9_init_12 : decode cX9_init 12 = .ok (.invokespecial 11, 3) := by decide +kernel
theorem dX9_init_15 : decode cX9_init 15 = .ok (.putfield 14, 3) := by decide +kernel
theorem dX9_init_18 : decode cX9_init 18 = .ok (.aload_n 0, 1) := by decide +kernel
theorem dX9_init_19 : decode cX9_init 19 = .ok (.new 9, 3) := by decide +kernel
theorem dX9_init_22 : decode cX9_init 22 = .ok (.dup, 1) := by decide +kernel
theorem dX9_init_23 : decode cX9_init 23 = .ok (.bipush 24, 2) := by decide +kernel
theorem dX9_init_25 : decode cX9_init 25 = .ok (.iconst (-1), 1) := by decide +kernel
theorem dX9_init_26 : decode cX9_init 26 = .ok (.invokespecial 11, 3) := by decide +kernel
theorem dX9_init_29 : decode cX9_init 29 = .ok (.putfield 20, 3) := by decide +kernel
theorem dX9_init_32 : decode cX9_init 32 = .ok (.aload_n 0, 1) := by decide +kernel
theorem dX9_init_33 : decode cX9_init 33 = .ok (.new 9, 3) := by decide +kernel
theorem dX9_init_36 : decode cX9_init 36 = .ok (.dup, 1) := by decide +kernel
theorem dX9_init_37 : decode cX9_init 37 = .ok (.bipush 24, 2) := by decide +kernel
theorem dX9_init_39 : decode cX9_init 39 = .ok (.iconst (-1), 1) := by decide +kernel
theorem dX9_init_40 : decode cX9_init 40 = .ok (.invokespecial 11, 3) := by decide +kernel
theorem dX9_init_43 : decode cX9_init 43 = .ok (.putfield 23, 3) := by decide +kernel
theorem dX9_init_46 : decode cX9_init 46 = .ok (.aload_n 0, 1) := by decide +kernel
theorem dX9_init_47 : decode cX9_init 47 = .ok (.new 9, 3) := by decide +kernel
theorem dX9_init_50 : decode cX9_init 50 = .ok (.dup, 1) := by decide +kernel
theorem dX9_init_51 : decode cX9_init 51 = .ok (.bipush 24, 2) := by decide +kernel
theorem dX9_init_53 : decode cX9_init 53 = .ok (.bipush 7, 2) := by decide +kernel
theorem dX9_init_55 : decode cX9_init 55 = .ok (.invokespecial 11, 3) := by decide +kernel
theorem dX9_init_58 : decode cX9_init 58 = .ok (.putfield 26, 3) := by decide +kernel
theorem dX9_init_61 : decode cX9_init 61 = .ok (.aload_n 0, 1) := by decide +kernel
theorem dX9_init_62 : decode cX9_init 62 = .ok (.new 9, 3) := by decide +kernel
theorem dX9_init_65 : decode cX9_init 65 = .ok (.dup, 1) := by decide +kernel
theorem dX9_init_66 : decode cX9_init 66 = .ok (.bipush 72, 2) := by decide +kernel
theorem dX9_init_68 : decode cX9_init 68 = .ok (.iconst 0, 1) := by decide +kernel
theorem dX9_init_69 : decode cX9_init 69 = .ok (.invokespecial 11, 3) := by decide +kernel
theorem dX9_init_72 : decode cX9_init 72 = .ok (.putfield 29, 3) := by decide +kernel
theorem dX9_init_75 : decode cX9_init 75 = .ok (.aload_n 0, 1) := by decide +kernel
theorem dX9_init_76 : decode cX9_init 76 = .ok (.new 9, 3) := by decide +kernel
theorem dX9_init_79 : decode cX9_init 79 = .ok (.dup, 1) := by decide +kernel
theorem dX9_init_80 : decode cX9_init 80 = .ok (.bipush 24, 2) := by decide +kernel
theorem dX9_init_82 : decode cX9_init 82 = .ok (.iconst (-1), 1) := by decide +kernel
theorem dX9_init_83 : decode cX9_init 83 = .ok (.invokespecial 11, 3) := by decide +kernel
theorem dX9_init_86 : decode cX9_init 86 = .ok (.putfield 32, 3) := by decide +kernel
theorem dX9_init_89 : decode cX9_init 89 = .ok (.aload_n 0, 1) := by decide +kernel
theorem dX9_init_90 : decode cX9_init 90 = .ok (.new 9, 3) := by decide +kernel
theorem dX9_init_93 : decode cX9_init 93 = .ok (.dup, 1) := by decide +kernel
theorem dX9_init_94 : decode cX9_init 94 = .ok (.bipush 6, 2) := by decide +kernel
theorem dX9_init_96 : decode cX9_init 96 = .ok (.iconst 0, 1) := by decide +kernel
theorem dX9_init_97 : decode cX9_init 97 = .ok (.invokespecial 11, 3) := by decide +kernel
theorem dX9_init_100 : decode cX9_init 100 = .ok (.putfield 35, 3) := by decide +kernel
theorem dX9_init_103 : decode cX9_init 103 = .ok (.return_, 1) := by decide +kernel
theorem dX9_isFull_0 : decode cX9_isFull 0 = .ok (.aload_n 0, 1) := by decide +kernel
theorem dX9_isFull_1 : decode cX9_isFull 1 = .ok (.getfield 35, 3) := by decide +kernel
theorem dX9_isFull_4 : decode cX9_isFull 4 = .ok (.iload_n 1, 1) := by decide +kernel
theorem dX9_isFull_5 : decode cX9_isFull 5 = .ok (.invokevirtual 38, 3) := by decide +kernel
theorem dX9_isFull_8 : decode cX9_isFull 8 = .ok (.iconst 4, 1) := by decide +kernel
theorem dX9_isFull_9 : decode cX9_isFull 9 = .ok (.if_icmp .ge 12, 3) := by decide +kernel
theorem dX9_isFull_12 : decode cX9_isFull 12 = .ok (.aload_n 0, 1) := by decide +kernel
theorem dX9_isFull_13 : decode cX9_isFull 13 = .ok (.getfield 42, 3) := by decide +kernel
theorem dX9_isFull_16 : decode cX9_isFull 16 = .ok (.bipush 24, 2) := by decide +kernel
theorem dX9_isFull_18 : decode cX9_isFull 18 = .ok (.if_icmp .lt 7, 3) := by decide +kernel
theorem dX9_isFull_21 : decode cX9_isFull 21 = .ok (.iconst 1, 1) := by decide +kernel
theorem dX9_isFull_22 : decode cX9_isFull 22 = .ok (.goto 4, 3) := by decide +kernel
theorem dX9_isFull_25 : decode cX9_isFull 25 = .ok (.iconst 0, 1) := by decide +kernel
theorem dX9_isFull_26 : decode cX9_isFull 26 = .ok (.ireturn, 1) := by decide +kernel
theorem dX9_hasRank_0 : decode cX9_hasRank 0 = .ok (.iconst 0, 1) := by decide +kernel
theorem dX9_hasRank_1 : decode cX9_hasRank 1 = .ok (.istore_n 3, 1) := by decide +kernel
theorem dX9_hasRank_2 : decode cX9_hasRank 2 = .ok (.iload_n 3, 1) := by decide +kernel
theorem dX9_hasRank_3 : decode cX9_hasRank 3 = .ok (.iconst 4, 1) := by decide +kernel
theorem dX9_hasRank_4 : decode cX9_hasRank 4 = .ok (.if_icmp .ge 28, 3) := by decide +kernel
theorem dX9_hasRank_7 : decode cX9_hasRank 7 = .ok (.aload_n 0, 1) := by decide +kernel
theorem dX9_hasRank_8 : decode cX9_hasRank 8 = .ok (.getfield 20, 3) := by decide +kernel
theorem dX9_hasRank_11 : decode cX9_hasRank 11 = .ok (.aload_n 0, 1) := by decide +kernel
theorem dX9_hasRank_12 : decode cX9_hasRank 12 = .ok (.iload_n 1, 1) := by decide +kernel
theorem dX9_hasRank_13 : decode cX9_hasRank 13 = .ok (.iload_n 3, 1) := by decide +kernel
theorem dX9_hasRank_14 : decode cX9_hasRank 14 = .ok (.invokevirtual 46, 3) := by decide +kernel
theorem dX9_hasRank_17 : decode cX9_hasRank 17 = .ok (.invokevirtual 38, 3) := by decide +kernel
theorem dX9_hasRank_20 : decode cX9_hasRank 20 = .ok (.iload_n 2, 1) := by decide +kernel
theorem dX9_hasRank_21 : decode cX9_hasRank 21 = .ok (.if_icmp .ne 5, 3) := by decide +kernel
theorem dX9_hasRank_24 : decode cX9_hasRank 24 = .ok (.iconst 1, 1) := by decide +kernel
theorem dX9_hasRank_25 : decode cX9_hasRank 25 = .ok (.ireturn, 1) := by decide +kernel
theorem dX9_hasRank_26 : decode cX9_hasRank 26 = .ok (.iinc 3 1, 3) := by decide +kernel
theorem dX9_hasRank_29 : decode cX9_hasRank 29 = .ok (.goto (-27), 3) := by decide +kernel
theorem dX9_hasRank_32 : decode cX9_hasRank 32 = .ok (.iconst 0, 1) := by decide +kernel
theorem dX9_hasRank_33 : decode cX9_hasRank 33 = .ok (.ireturn, 1) := by decide +kernel
theorem dX9_add_0 : decode cX9_add 0 = .ok (.aload_n 0, 1) := by decide +kernel
theorem dX9_add_1 : decode cX9_add 1 = .ok (.getfield 42, 3) := by decide +kernel
theorem dX9_add_4 : decode cX9_add 4 = .ok (.istore 5, 2) := by decide +kernel
theorem dX9_add_6 : decode cX9_add 6 = .ok (.aload_n 0, 1) := by decide +kernel
theorem dX9_add_7 : decode cX9_add 7 = .ok (.getfield 14, 3) := by decide +kernel
theorem dX9_add_10 : decode cX9_add 10 = .ok (.iload 5, 2) := by decide +kernel
theorem dX9_add_12 : decode cX9_add 12 = .ok (.iload_n 1, 1) := by decide +kernel
theorem dX9_add_13 : decode cX9_add 13 = .ok (.invokevirtual 50, 3) := by decide +kernel
theorem dX9_add_16 : decode cX9_add 16 = .ok (.aload_n 0, 1) := by decide +kernel
theorem dX9_add_17 : decode cX9_add 17 = .ok (.getfield 20, 3) := by decide +kernel
theorem dX9_add_20 : decode cX9_add 20 = .ok (.iload 5, 2) := by decide +kernel
theorem dX9_add_22 : decode cX9_add 22 = .ok (.iload_n 2, 1) := by decide +kernel
theorem dX9_add_23 : decode cX9_add 23 = .ok (.invokevirtual 50, 3) := by decide +kernel
theorem dX9_add_26 : decode cX9_add 26 = .ok (.aload_n 0, 1) := by decide +kernel
theorem dX9_add_27 : decode cX9_add 27 = .ok (.getfield 23, 3) := by decide +kernel
theorem dX9_add_30 : decode cX9_add 30 = .ok (.iload 5, 2) := by decide +kernel
theorem dX9_add_32 : decode cX9_add 32 = .ok (.bipush 31, 2) := by decide +kernel
theorem dX9_add_34 : decode cX9_add 34 = .ok (.iload 5, 2) := by decide +kernel
theorem dX9_add_36 : decode cX9_add 36 = .ok (.imul, 1) := by decide +kernel
theorem dX9_add_37 : decode cX9_add 37 = .ok (.iload_n 3, 1) := by decide +kernel
theorem dX9_add_38 : decode cX9_add 38 = .ok (.iadd, 1) := by decide +kernel
theorem dX9_add_39 : decode cX9_add 39 = .ok (.sipush 9973, 3) := by decide +kernel
theorem dX9_add_42 : decode cX9_add 42 = .ok (.irem, 1) := by decide +kernel
theorem dX9_add_43 : decode cX9_add 43 = .ok (.invokevirtual 50, 3) := by decide +kernel
theorem dX9_add_46 : decode cX9_add 46 = .ok (.aload_n 0, 1) := by decide +kernel
theorem dX9_add_47 : decode cX9_add 47 = .ok (.getfield 32, 3) := by decide +kernel
theorem dX9_add_50 : decode cX9_add 50 = .ok (.iload_n 1, 1) := by decide +kernel
theorem dX9_add_51 : decode cX9_add 51 = .ok (.iconst 4, 1) := by decide +kernel
theorem dX9_add_52 : decode cX9_add 52 = .ok (.imul, 1) := by decide +kernel
theorem dX9_add_53 : decode cX9_add 53 = .ok (.aload_n 0, 1) := by decide +kernel
theorem dX9_add_54 : decode cX9_add 54 = .ok (.getfield 35, 3) := by decide +kernel
theorem dX9_add_57 : decode cX9_add 57 = .ok (.iload_n 1, 1) := by decide +kernel
theorem dX9_add_58 : decode cX9_add 58 = .ok (.invokevirtual 38, 3) := by decide +kernel
theorem dX9_add_61 : decode cX9_add 61 = .ok (.iadd, 1) := by decide +kernel
theorem dX9_add_62 : decode cX9_add 62 = .ok (.iload 5, 2) := by decide +kernel
theorem dX9_add_64 : decode cX9_add 64 = .ok (.invokevirtual 50, 3) := by decide +kernel
theorem dX9_add_67 : decode cX9_add 67 = .ok (.aload_n 0, 1) := by decide +kernel
theorem dX9_add_68 : decode cX9_add 68 = .ok (.getfield 35, 3) := by decide +kernel
theorem dX9_add_71 : decode cX9_add 71 = .ok (.iload_n 1, 1) := by decide +kernel
theorem dX9_add_72 : decode cX9_add 72 = .ok (.aload_n 0, 1) := by decide +kernel
theorem dX9_add_73 : decode cX9_add 73 = .ok (.getfield 35, 3) := by decide +kernel
theorem dX9_add_76 : decode cX9_add 76 = .ok (.iload_n 1, 1) := by decide +kernel
theorem dX9_add_77 : decode cX9_add 77 = .ok (.invokevirtual 38, 3) := by decide +kernel
theorem dX9_add_80 : decode cX9_add 80 = .ok (.iconst 1, 1) := by decide +kernel
theorem dX9_add_81 : decode cX9_add 81 = .ok (.iadd, 1) := by decide +kernel
theorem dX9_add_82 : decode cX9_add 82 = .ok (.invokevirtual 50, 3) := by decide +kernel
theorem dX9_add_85 : decode cX9_add 85 = .ok (.iload 4, 2) := by decide +kernel
theorem dX9_add_87 : decode cX9_add 87 = .ok (.ifCond .ne 18, 3) := by decide +kernel
theorem dX9_add_90 : decode cX9_add 90 = .ok (.aload_n 0, 1) := by decide +kernel
theorem dX9_add_91 : decode cX9_add 91 = .ok (.dup, 1) := by decide +kernel
theorem dX9_add_92 : decode cX9_add 92 = .ok (.getfield 53, 3) := by decide +kernel
theorem dX9_add_95 : decode cX9_add 95 = .ok (.iconst 1, 1) := by decide +kernel
theorem dX9_add_96 : decode cX9_add 96 = .ok (.iload_n 1, 1) := by decide +kernel
theorem dX9_add_97 : decode cX9_add 97 = .ok (.ishl, 1) := by decide +kernel
theorem dX9_add_98 : decode cX9_add 98 = .ok (.ior, 1) := by decide +kernel
theorem dX9_add_99 : decode cX9_add 99 = .ok (.putfield 53, 3) := by decide +kernel
theorem dX9_add_102 : decode cX9_add 102 = .ok (.goto 16, 3) := by decide +kernel
theorem dX9_add_105 : decode cX9_add 105 = .ok (.aload_n 0, 1) := by decide +kernel
theorem dX9_add_106 : decode cX9_add 106 = .ok (.dup, 1) := by decide +kernel
theorem dX9_add_107 : decode cX9_add 107 = .ok (.getfield 56, 3) := by decide +kernel
theorem dX9_add_110 : decode cX9_add 110 = .ok (.iconst 1, 1) := by decide +kernel
theorem dX9_add_111 : decode cX9_add 111 = .ok (.iload 5, 2) := by decide +kernel
theorem dX9_add_113 : decode cX9_add 113 = .ok (.ishl, 1) := by decide +kernel
theorem dX9_add_114 : decode cX9_add 114 = .ok (.ior, 1) := by decide +kernel
theorem dX9_add_115 : decode cX9_add 115 = .ok (.putfield 56, 3) := by decide +kernel
theorem dX9_add_118 : decode cX9_add 118 = .ok (.aload_n 0, 1) := by decide +kernel
theorem dX9_add_119 : decode cX9_add 119 = .ok (.dup, 1) := by decide +kernel
theorem dX9_add_120 : decode cX9_add 120 = .ok (.getfield 42, 3) := by decide +kernel
theorem dX9_add_123 : decode cX9_add 123 = .ok (.iconst 1, 1) := by decide +kernel
theorem dX9_add_124 : decode cX9_add 124 = .ok (.iadd, 1) := by decide +kernel
theorem dX9_add_125 : decode cX9_add 125 = .ok (.putfield 42, 3) := by decide +kernel
theorem dX9_add_128 : decode cX9_add 128 = .ok (.iload 5, 2) := by decide +kernel
theorem dX9_add_130 : decode cX9_add 130 = .ok (.ireturn, 1) := by decide +kernel
theorem dX9_member_0 : decode cX9_member 0 = .ok (.iconst 3, 1) := by decide +kernel
theorem dX9_member_1 : decode cX9_member 1 = .ok (.iload_n 2, 1) := by decide +kernel
theorem dX9_member_2 : decode cX9_member 2 = .ok (.invokestatic 59, 3) := by decide +kernel
theorem dX9_member_5 : decode cX9_member 5 = .ok (.ifCond .eq 18, 3) := by decide +kernel
theorem dX9_member_8 : decode cX9_member 8 = .ok (.aload_n 0, 1) := by decide +kernel
theorem dX9_member_9 : decode cX9_member 9 = .ok (.getfield 32, 3) := by decide +kernel
theorem dX9_member_12 : decode cX9_member 12 = .ok (.iload_n 1, 1) := by decide +kernel
theorem dX9_member_13 : decode cX9_member 13 = .ok (.iconst 4, 1) := by decide +kernel
theorem dX9_member_14 : decode cX9_member 14 = .ok (.imul, 1) := by decide +kernel
theorem dX9_member_15 : decode cX9_member 15 = .ok (.iload_n 2, 1) := by decide +kernel
theorem dX9_member_16 : decode cX9_member 16 = .ok (.iadd, 1) := by decide +kernel
theorem dX9_member_17 : decode cX9_member 17 = .ok (.invokevirtual 38, 3) := by decide +kernel
theorem dX9_member_20 : decode cX9_member 20 = .ok (.goto 4, 3) := by decide +kernel
theorem dX9_member_23 : decode cX9_member 23 = .ok (.iconst (-1), 1) := by decide +kernel
theorem dX9_member_24 : decode cX9_member 24 = .ok (.ireturn, 1) := by decide +kernel
theorem dX9_toggleYanked_0 : decode cX9_toggleYanked 0 = .ok (.aload_n 0, 1) := by decide +kernel
theorem dX9_toggleYanked_1 : decode cX9_toggleYanked 1 = .ok (.dup, 1) := by decide +kernel
theorem dX9_toggleYanked_2 : decode cX9_toggleYanked 2 = .ok (.getfield 63, 3) := by decide +kernel
theorem dX9_toggleYanked_5 : decode cX9_toggleYanked 5 = .ok (.iconst 1, 1) := by decide +kernel
theorem dX9_toggleYanked_6 : decode cX9_toggleYanked 6 = .ok (.iload_n 1, 1) := by decide +kernel
theorem dX9_toggleYanked_7 : decode cX9_toggleYanked 7 = .ok (.ishl, 1) := by decide +kernel
theorem dX9_toggleYanked_8 : decode cX9_toggleYanked 8 = .ok (.ixor, 1) := by decide +kernel
theorem dX9_toggleYanked_9 : decode cX9_toggleYanked 9 = .ok (.putfield 63, 3) := by decide +kernel
theorem dX9_toggleYanked_12 : decode cX9_toggleYanked 12 = .ok (.aload_n 0, 1) := by decide +kernel
theorem dX9_toggleYanked_13 : decode cX9_toggleYanked 13 = .ok (.iload_n 1, 1) := by decide +kernel
theorem dX9_toggleYanked_14 : decode cX9_toggleYanked 14 = .ok (.invokevirtual 66, 3) := by decide +kernel
theorem dX9_toggleYanked_17 : decode cX9_toggleYanked 17 = .ok (.ireturn, 1) := by decide +kernel
theorem dX9_isYanked_0 : decode cX9_isYanked 0 = .ok (.aload_n 0, 1) := by decide +kernel
theorem dX9_isYanked_1 : decode cX9_isYanked 1 = .ok (.getfield 63, 3) := by decide +kernel
theorem dX9_isYanked_4 : decode cX9_isYanked 4 = .ok (.iload_n 1, 1) := by decide +kernel
theorem dX9_isYanked_5 : decode cX9_isYanked 5 = .ok (.invokestatic 70, 3) := by decide +kernel
theorem dX9_isYanked_8 : decode cX9_isYanked 8 = .ok (.ireturn, 1) := by decide +kernel
theorem dX9_isHidden_0 : decode cX9_isHidden 0 = .ok (.aload_n 0, 1) := by decide +kernel
theorem dX9_isHidden_1 : decode cX9_isHidden 1 = .ok (.getfield 56, 3) := by decide +kernel
theorem dX9_isHidden_4 : decode cX9_isHidden 4 = .ok (.iload_n 1, 1) := by decide +kernel
theorem dX9_isHidden_5 : decode cX9_isHidden 5 = .ok (.invokestatic 70, 3) := by decide +kernel
theorem dX9_isHidden_8 : decode cX9_isHidden 8 = .ok (.ifCond .eq 25, 3) := by decide +kernel
theorem dX9_isHidden_11 : decode cX9_isHidden 11 = .ok (.aload_n 0, 1) := by decide +kernel
theorem dX9_isHidden_12 : decode cX9_isHidden 12 = .ok (.getfield 53, 3) := by decide +kernel
theorem dX9_isHidden_15 : decode cX9_isHidden 15 = .ok (.aload_n 0, 1) := by decide +kernel
theorem dX9_isHidden_16 : decode cX9_isHidden 16 = .ok (.getfield 14, 3) := by decide +kernel
theorem dX9_isHidden_19 : decode cX9_isHidden 19 = .ok (.iload_n 1, 1) := by decide +kernel
theorem dX9_isHidden_20 : decode cX9_isHidden 20 = .ok (.invokevirtual 38, 3) := by decide +kernel
theorem dX9_isHidden_23 : decode cX9_isHidden 23 = .ok (.invokestatic 70, 3) := by decide +kernel
theorem dX9_isHidden_26 : decode cX9_isHidden 26 = .ok (.ifCond .eq 7, 3) := by decide +kernel
theorem dX9_isHidden_29 : decode cX9_isHidden 29 = .ok (.iconst 1, 1) := by decide +kernel
theorem dX9_isHidden_30 : decode cX9_isHidden 30 = .ok (.goto 4, 3) := by decide +kernel
theorem dX9_isHidden_33 : decode cX9_isHidden 33 = .ok (.iconst 0, 1) := by decide +kernel
theorem dX9_isHidden_34 : decode cX9_isHidden 34 = .ok (.ireturn, 1) := by decide +kernel
theorem dX9_broughtBy_0 : decode cX9_broughtBy 0 = .ok (.iconst 0, 1) := by decide +kernel
theorem dX9_broughtBy_1 : decode cX9_broughtBy 1 = .ok (.istore_n 3, 1) := by decide +kernel
theorem dX9_broughtBy_2 : decode cX9_broughtBy 2 = .ok (.iconst 0, 1) := by decide +kernel
theorem dX9_broughtBy_3 : decode cX9_broughtBy 3 = .ok (.istore 4, 2) := by decide +kernel
theorem dX9_broughtBy_5 : decode cX9_broughtBy 5 = .ok (.iload 4, 2) := by decide +kernel
theorem dX9_broughtBy_7 : decode cX9_broughtBy 7 = .ok (.iconst 3, 1) := by decide +kernel
theorem dX9_broughtBy_8 : decode cX9_broughtBy 8 = .ok (.if_icmp .ge 34, 3) := by decide +kernel
theorem dX9_broughtBy_11 : decode cX9_broughtBy 11 = .ok (.iload_n 2, 1) := by decide +kernel
theorem dX9_broughtBy_12 : decode cX9_broughtBy 12 = .ok (.iload 4, 2) := by decide +kernel
theorem dX9_broughtBy_14 : decode cX9_broughtBy 14 = .ok (.invokestatic 70, 3) := by decide +kernel
theorem dX9_broughtBy_17 : decode cX9_broughtBy 17 = .ok (.ifCond .eq 19, 3) := by decide +kernel
theorem dX9_broughtBy_20 : decode cX9_broughtBy 20 = .ok (.iload_n 3, 1) := by decide +kernel
theorem dX9_broughtBy_21 : decode cX9_broughtBy 21 = .ok (.aload_n 0, 1) := by decide +kernel
theorem dX9_broughtBy_22 : decode cX9_broughtBy 22 = .ok (.getfield 29, 3) := by decide +kernel
theorem dX9_broughtBy_25 : decode cX9_broughtBy 25 = .ok (.iload_n 1, 1) := by decide +kernel
theorem dX9_broughtBy_26 : decode cX9_broughtBy 26 = .ok (.iconst 3, 1) := by decide +kernel
theorem dX9_broughtBy_27 : decode cX9_broughtBy 27 = .ok (.imul, 1) := by decide +kernel
theorem dX9_broughtBy_28 : decode cX9_broughtBy 28 = .ok (.iload 4, 2) := by decide +kernel
theorem dX9_broughtBy_30 : decode cX9_broughtBy 30 = .ok (.iadd, 1) := by decide +kernel
theorem dX9_broughtBy_31 : decode cX9_broughtBy 31 = .ok (.invokevirtual 38, 3) := by decide +kernel
theorem dX9_broughtBy_34 : decode cX9_broughtBy 34 = .ok (.ior, 1) := by decide +kernel
theorem dX9_broughtBy_35 : decode cX9_broughtBy 35 = .ok (.istore_n 3, 1) := by decide +kernel
theorem dX9_broughtBy_36 : decode cX9_broughtBy 36 = .ok (.iinc 4 1, 3) := by decide +kernel
theorem dX9_broughtBy_39 : decode cX9_broughtBy 39 = .ok (.goto (-34), 3) := by decide +kernel
theorem dX9_broughtBy_42 : decode cX9_broughtBy 42 = .ok (.iload_n 3, 1) := by decide +kernel
theorem dX9_broughtBy_43 : decode cX9_broughtBy 43 = .ok (.ireturn, 1) := by decide +kernel
theorem dX10_init_0 : decode cX10_init 0 = .ok (.aload_n 0, 1) := by decide +kernel
theorem dX10_init_1 : decode cX10_init 1 = .ok (.invokespecial 3, 3) := by decide +kernel
theorem dX10_init_4 : decode cX10_init 4 = .ok (.aload_n 0, 1) := by decide +kernel
theorem dX10_init_5 : decode cX10_init 5 = .ok (.new 9, 3) := by decide +kernel
theorem dX10_init_8 : decode cX10_init 8 = .ok (.dup, 1) := by decide +kernel
theorem dX10_init_9 : decode cX10_init 9 = .ok (.invokespecial 11, 3) := by decide +kernel
theorem dX10_init_12 : decode cX10_init 12 = .ok (.putfield 12, 3) := by decide +kernel
theorem dX10_init_15 : decode cX10_init 15 = .ok (.aload_n 0, 1) := by decide +kernel
theorem dX10_init_16 : decode cX10_init 16 = .ok (.new 18, 3) := by decide +kernel
theorem dX10_init_19 : decode cX10_init 19 = .ok (.dup, 1) := by decide +kernel
theorem dX10_init_20 : decode cX10_init 20 = .ok (.invokespecial 20, 3) := by decide +kernel
theorem dX10_init_23 : decode cX10_init 23 = .ok (.putfield 21, 3) := by decide +kernel
theorem dX10_init_26 : decode cX10_init 26 = .ok (.aload_n 0, 1) := by decide +kernel
theorem dX10_init_27 : decode cX10_init 27 = .ok (.new 25, 3) := by decide +kernel
theorem dX10_init_30 : decode cX10_init 30 = .ok (.dup, 1) := by decide +kernel
theorem dX10_init_31 : decode cX10_init 31 = .ok (.invokespecial 27, 3) := by decide +kernel
theorem dX10_init_34 : decode cX10_init 34 = .ok (.putfield 28, 3) := by decide +kernel
theorem dX10_init_37 : decode cX10_init 37 = .ok (.aload_n 0, 1) := by decide +kernel
theorem dX10_init_38 : decode cX10_init 38 = .ok (.new 32, 3) := by decide +kernel
theorem dX10_init_41 : decode cX10_init 41 = .ok (.dup, 1) := by decide +kernel
theorem dX10_init_42 : decode cX10_init 42 = .ok (.invokespecial 34, 3) := by decide +kernel
theorem dX10_init_45 : decode cX10_init 45 = .ok (.putfield 35, 3) := by decide +kernel
theorem dX10_init_48 : decode cX10_init 48 = .ok (.aload_n 0, 1) := by decide +kernel
theorem dX10_init_49 : decode cX10_init 49 = .ok (.new 39, 3) := by decide +kernel
theorem dX10_init_52 : decode cX10_init 52 = .ok (.dup, 1) := by decide +kernel
theorem dX10_init_53 : decode cX10_init 53 = .ok (.bipush 6, 2) := by decide +kernel
theorem dX10_init_55 : decode cX10_init 55 = .ok (.iconst (-1), 1) := by decide +kernel
theorem dX10_init_56 : decode cX10_init 56 = .ok (.invokespecial 41, 3) := by decide +kernel
theorem dX10_init_59 : decode cX10_init 59 = .ok (.putfield 44, 3) := by decide +kernel
theorem dX10_init_62 : decode cX10_init 62 = .ok (.aload_n 0, 1) := by decide +kernel
theorem dX10_init_63 : decode cX10_init 63 = .ok (.new 39, 3) := by decide +kernel
theorem dX10_init_66 : decode cX10_init 66 = .ok (.dup, 1) := by decide +kernel
theorem dX10_init_67 : decode cX10_init 67 = .ok (.bipush 8, 2) := by decide +kernel
theorem dX10_init_69 : decode cX10_init 69 = .ok (.iconst (-1), 1) := by decide +kernel
theorem dX10_init_70 : decode cX10_init 70 = .ok (.invokespecial 41, 3) := by decide +kernel
theorem dX10_init_73 : decode cX10_init 73 = .ok (.putfield 48, 3) := by decide +kernel
theorem dX10_init_76 : decode cX10_init 76 = .ok (.aload_n 0, 1) := by decide +kernel
theorem dX10_init_77 : decode cX10_init 77 = .ok (.new 39, 3) := by decide +kernel
theorem dX10_init_80 : decode cX10_init 80 = .ok (.dup, 1) := by decide +kernel
theorem dX10_init_81 : decode cX10_init 81 = .ok (.bipush 8, 2) := by decide +kernel
theorem dX10_init_83 : decode cX10_init 83 = .ok (.iconst (-1), 1) := by decide +kernel
theorem dX10_init_84 : decode cX10_init 84 = .ok (.invokespecial 41, 3) := by decide +kernel
theorem dX10_init_87 : decode cX10_init 87 = .ok (.putfield 51, 3) := by decide +kernel
theorem dX10_init_90 : decode cX10_init 90 = .ok (.aload_n 0, 1) := by decide +kernel
theorem dX10_init_91 : decode cX10_init 91 = .ok (.new 39, 3) := by decide +kernel
theorem dX10_init_94 : decode cX10_init 94 = .ok (.dup, 1) := by decide +kernel
theorem dX10_init_95 : decode cX10_init 95 = .ok (.bipush 6, 2) := by decide +kernel
theorem dX10_init_97 : decode cX10_init 97 = .ok (.iconst (-1), 1) := by decide +kernel
theorem dX10_init_98 : decode cX10_init 98 = .ok (.invokespecial 41, 3) := by decide +kernel
theorem dX10_init_101 : decode cX10_init 101 = .ok (.putfield 54, 3) := by decide +kernel
theorem dX10_init_104 : decode cX10_init 104 = .ok (.aload_n 0, 1) := by decide +kernel
theorem dX10_init_105 : decode cX10_init 105 = .ok (.new 39, 3) := by decide +kernel
theorem dX10_init_108 : decode cX10_init 108 = .ok (.dup, 1) := by decide +kernel
theorem dX10_init_109 : decode cX10_init 109 = .ok (.bipush 6, 2) := by decide +kernel
theorem dX10_init_111 : decode cX10_init 111 = .ok (.iconst (-1), 1) := by decide +kernel
theorem dX10_init_112 : decode cX10_init 112 = .ok (.invokespecial 41, 3) := by decide +kernel
theorem dX10_init_115 : decode cX10_init 115 = .ok (.putfield 57, 3) := by decide +kernel
theorem dX10_init_118 : decode cX10_init 118 = .ok (.iconst 0, 1) := by decide +kernel
theorem dX10_init_119 : decode cX10_init 119 = .ok (.istore_n 1, 1) := by decide +kernel
theorem dX10_init_120 : decode cX10_init 120 = .ok (.iload_n 1, 1) := by decide +kernel
theorem dX10_init_121 : decode cX10_init 121 = .ok (.bipush 6, 2) := by decide +kernel
theorem dX10_init_123 : decode cX10_init 123 = .ok (.if_icmp .ge 18, 3) := by decide +kernel
theorem dX10_init_126 : decode cX10_init 126 = .ok (.aload_n 0, 1) := by decide +kernel
theorem dX10_init_127 : decode cX10_init 127 = .ok (.getfield 57, 3) := by decide +kernel
theorem dX10_init_130 : decode cX10_init 130 = .ok (.iload_n 1, 1) := by decide +kernel
theorem dX10_init_131 : decode cX10_init 131 = .ok (.iload_n 1, 1) := by decide +kernel
theorem dX10_init_132 : decode cX10_init 132 = .ok (.invokevirtual 60, 3) := by decide +kernel
theorem dX10_init_135 : decode cX10_init 135 = .ok (.iinc 1 1, 3) := by decide +kernel
theorem dX10_init_138 : decode cX10_init 138 = .ok (.goto (-18), 3) := by decide +kernel
theorem dX10_init_141 : decode cX10_init 141 = .ok (.return_, 1) := by decide +kernel
theorem dX10_warn_0 : decode cX10_warn 0 = .ok (.aload_n 0, 1) := by decide +kernel
theorem dX10_warn_1 : decode cX10_warn 1 = .ok (.getfield 48, 3) := by decide +kernel
theorem dX10_warn_4 : decode cX10_warn 4 = .ok (.aload_n 0, 1) := by decide +kernel
theorem dX10_warn_5 : decode cX10_warn 5 = .ok (.getfield 63, 3) := by decide +kernel
theorem dX10_warn_8 : decode cX10_warn 8 = .ok (.iload_n 1, 1) := by decide +kernel
theorem dX10_warn_9 : decode cX10_warn 9 = .ok (.invokevirtual 60, 3) := by decide +kernel
theorem dX10_warn_12 : decode cX10_warn 12 = .ok (.aload_n 0, 1) := by decide +kernel
theorem dX10_warn_13 : decode cX10_warn 13 = .ok (.getfield 51, 3) := by decide +kernel
theorem dX10_warn_16 : decode cX10_warn 16 = .ok (.aload_n 0, 1) := by decide +kernel
theorem dX10_warn_17 : decode cX10_warn 17 = .ok (.getfield 63, 3) := by decide +kernel
theorem dX10_warn_20 : decode cX10_warn 20 = .ok (.iload_n 2, 1) := by decide +kernel
theorem dX10_warn_21 : decode cX10_warn 21 = .ok (.invokevirtual 60, 3) := by decide +kernel
theorem dX10_warn_24 : decode cX10_warn 24 = .ok (.aload_n 0, 1) := by decide +kernel
theorem dX10_warn_25 : decode cX10_warn 25 = .ok (.dup, 1) := by decide +kernel
theorem dX10_warn_26 : decode cX10_warn 26 = .ok (.getfield 63, 3) := by decide +kernel
theorem dX10_warn_29 : decode cX10_warn 29 = .ok (.iconst 1, 1) := by decide +kernel
theorem dX10_warn_30 : decode cX10_warn 30 = .ok (.iadd, 1) := by decide +kernel
theorem dX10_warn_31 : decode cX10_warn 31 = .ok (.putfield 63, 3) := by decide +kernel
theorem dX10_warn_34 : decode cX10_warn 34 = .ok (.aload_n 0, 1) := by decide +kernel
theorem dX10_warn_35 : decode cX10_warn 35 = .ok (.getfield 63, 3) := by decide +kernel
theorem dX10_warn_38 : decode cX10_warn 38 = .ok (.ireturn, 1) := by decide +kernel
theorem dX10_flaw_0 : decode cX10_flaw 0 = .ok (.aload_n 0, 1) := by decide +kernel
theorem dX10_flaw_1 : decode cX10_flaw 1 = .ok (.getfield 12, 3) := by decide +kernel
theorem dX10_flaw_4 : decode cX10_flaw 4 = .ok (.getfield 67, 3) := by decide +kernel
theorem dX10_flaw_7 : decode cX10_flaw 7 = .ok (.iload_n 1, 1) := by decide +kernel
theorem dX10_flaw_8 : decode cX10_flaw 8 = .ok (.invokevirtual 70, 3) := by decide +kernel
theorem dX10_flaw_11 : decode cX10_flaw 11 = .ok (.istore_n 2, 1) := by decide +kernel
theorem dX10_flaw_12 : decode cX10_flaw 12 = .ok (.aload_n 0, 1) := by decide +kernel
theorem dX10_flaw_13 : decode cX10_flaw 13 = .ok (.getfield 12, 3) := by decide +kernel
theorem dX10_flaw_16 : decode cX10_flaw 16 = .ok (.iload_n 1, 1) := by decide +kernel
theorem dX10_flaw_17 : decode cX10_flaw 17 = .ok (.invokevirtual 74, 3) := by decide +kernel
theorem dX10_flaw_20 : decode cX10_flaw 20 = .ok (.ifCond .eq 5, 3) := by decide +kernel
theorem dX10_flaw_23 : decode cX10_flaw 23 = .ok (.iconst 1, 1) := by decide +kernel
theorem dX10_flaw_24 : decode cX10_flaw 24 = .ok (.ireturn, 1) := by decide +kernel
theorem dX10_flaw_25 : decode cX10_flaw 25 = .ok (.aload_n 0, 1) := by decide +kernel
theorem dX10_flaw_26 : decode cX10_flaw 26 = .ok (.getfield 12, 3) := by decide +kernel
theorem dX10_flaw_29 : decode cX10_flaw 29 = .ok (.iload_n 1, 1) := by decide +kernel
theorem dX10_flaw_30 : decode cX10_flaw 30 = .ok (.invokevirtual 78, 3) := by decide +kernel
theorem dX10_flaw_33 : decode cX10_flaw 33 = .ok (.ifCond .eq 17, 3) := by decide +kernel
theorem dX10_flaw_36 : decode cX10_flaw 36 = .ok (.aload_n 0, 1) := by decide +kernel
theorem dX10_flaw_37 : decode cX10_flaw 37 = .ok (.getfield 44, 3) := by decide +kernel
theorem dX10_flaw_40 : decode cX10_flaw 40 = .ok (.iload_n 2, 1) := by decide +kernel
theorem dX10_flaw_41 : decode cX10_flaw 41 = .ok (.invokevirtual 70, 3) := by decide +kernel
theorem dX10_flaw_44 : decode cX10_flaw 44 = .ok (.iload_n 1, 1) := by decide +kernel
theorem dX10_flaw_45 : decode cX10_flaw 45 = .ok (.if_icmp .eq 5, 3) := by decide +kernel
theorem dX10_flaw_48 : decode cX10_flaw 48 = .ok (.iconst 2, 1) := by decide +kernel
theorem dX10_flaw_49 : decode cX10_flaw 49 = .ok (.ireturn, 1) := by decide +kernel
theorem dX10_flaw_50 : decode cX10_flaw 50 = .ok (.aload_n 0, 1) := by decide +kernel
theorem dX10_flaw_51 : decode cX10_flaw 51 = .ok (.getfield 12, 3) := by decide +kernel
theorem dX10_flaw_54 : decode cX10_flaw 54 = .ok (.getfield 81, 3) := by decide +kernel
theorem dX10_flaw_57 : decode cX10_flaw 57 = .ok (.iload_n 1, 1) := by decide +kernel
theorem dX10_flaw_58 : decode cX10_flaw 58 = .ok (.invokevirtual 70, 3) := by decide +kernel
theorem dX10_flaw_61 : decode cX10_flaw 61 = .ok (.aload_n 0, 1) := by decide +kernel
theorem dX10_flaw_62 : decode cX10_flaw 62 = .ok (.getfield 84, 3) := by decide +kernel
theorem dX10_flaw_65 : decode cX10_flaw 65 = .ok (.invokestatic 87, 3) := by decide +kernel
theorem dX10_flaw_68 : decode cX10_flaw 68 = .ok (.ifCond .ne 5, 3) := by decide +kernel
theorem dX10_flaw_71 : decode cX10_flaw 71 = .ok (.iconst 3, 1) := by decide +kernel
theorem dX10_flaw_72 : decode cX10_flaw 72 = .ok (.ireturn, 1) := by decide +kernel
theorem dX10_flaw_73 : decode cX10_flaw 73 = .ok (.iconst 0, 1) := by decide +kernel
theorem dX10_flaw_74 : decode cX10_flaw 74 = .ok (.istore_n 3, 1) := by decide +kernel
theorem dX10_flaw_75 : decode cX10_flaw 75 = .ok (.iload_n 3, 1) := by decide +kernel
theorem dX10_flaw_76 : decode cX10_flaw 76 = .ok (.aload_n 0, 1) := by decide +kernel
theorem dX10_flaw_77 : decode cX10_flaw 77 = .ok (.getfield 63, 3) := by decide +kernel
theorem dX10_flaw_80 : decode cX10_flaw 80 = .ok (.if_icmp .ge 42, 3) := by decide +kernel
theorem dX10_flaw_83 : decode cX10_flaw 83 = .ok (.aload_n 0, 1) := by decide +kernel
theorem dX10_flaw_84 : decode cX10_flaw 84 = .ok (.getfield 48, 3) := by decide +kernel
theorem dX10_flaw_87 : decode cX10_flaw 87 = .ok (.iload_n 3, 1) := by decide +kernel
theorem dX10_flaw_88 : decode cX10_flaw 88 = .ok (.invokevirtual 70, 3) := by decide +kernel
theorem dX10_flaw_91 : decode cX10_flaw 91 = .ok (.iload_n 2, 1) := by decide +kernel
theorem dX10_flaw_92 : decode cX10_flaw 92 = .ok (.if_icmp .ne 24, 3) := by decide +kernel
theorem dX10_flaw_95 : decode cX10_flaw 95 = .ok (.aload_n 0, 1) := by decide +kernel
theorem dX10_flaw_96 : decode cX10_flaw 96 = .ok (.getfield 21, 3) := by decide +kernel
theorem dX10_flaw_99 : decode cX10_flaw 99 = .ok (.aload_n 0, 1) := by decide +kernel
theorem dX10_flaw_100 : decode cX10_flaw 100 = .ok (.getfield 51, 3) := by decide +kernel
theorem dX10_flaw_103 : decode cX10_flaw 103 = .ok (.iload_n 3, 1) := by decide +kernel
theorem dX10_flaw_104 : decode cX10_flaw 104 = .ok (.invokevirtual 70, 3) := by decide +kernel
theorem dX10_flaw_107 : decode cX10_flaw 107 = .ok (.iload_n 1, 1) := by decide +kernel
theorem dX10_flaw_108 : decode cX10_flaw 108 = .ok (.invokevirtual 91, 3) := by decide +kernel
theorem dX10_flaw_111 : decode cX10_flaw 111 = .ok (.ifCond .eq 5, 3) := by decide +kernel
theorem dX10_flaw_114 : decode cX10_flaw 114 = .ok (.iconst 4, 1) := by decide +kernel
theorem dX10_flaw_115 : decode cX10_flaw 115 = .ok (.ireturn, 1) := by decide +kernel
theorem dX10_flaw_116 : decode cX10_flaw 116 = .ok (.iinc 3 1, 3) := by decide +kernel
theorem dX10_flaw_119 : decode cX10_flaw 119 = .ok (.goto (-44), 3) := by decide +kernel
theorem dX10_flaw_122 : decode cX10_flaw 122 = .ok (.iconst 0, 1) := by decide +kernel
theorem dX10_flaw_123 : decode cX10_flaw 123 = .ok (.ireturn, 1) := by decide +kernel
theorem dX10_usable_0 : decode cX10_usable 0 = .ok (.iconst 0, 1) := by decide +kernel
theorem dX10_usable_1 : decode cX10_usable 1 = .ok (.istore_n 1, 1) := by decide +kernel
theorem dX10_usable_2 : decode cX10_usable 2 = .ok (.iconst 0, 1) := by decide +kernel
theorem dX10_usable_3 : decode cX10_usable 3 = .ok (.istore_n 2, 1) := by decide +kernel
theorem dX10_usable_4 : decode cX10_usable 4 = .ok (.iload_n 2, 1) := by decide +kernel
theorem dX10_usable_5 : decode cX10_usable 5 = .ok (.aload_n 0, 1) := by decide +kernel
theorem dX10_usable_6 : decode cX10_usable 6 = .ok (.getfield 12, 3) := by decide +kernel
theorem dX10_usable_9 : decode cX10_usable 9 = .ok (.getfield 94, 3) := by decide +kernel
theorem dX10_usable_12 : decode cX10_usable 12 = .ok (.if_icmp .ge 23, 3) := by decide +kernel
theorem dX10_usable_15 : decode cX10_usable 15 = .ok (.aload_n 0, 1) := by decide +kernel
theorem dX10_usable_16 : decode cX10_usable 16 = .ok (.iload_n 2, 1) := by decide +kernel
theorem dX10_usable_17 : decode cX10_usable 17 = .ok (.invokevirtual 97, 3) := by decide +kernel
theorem dX10_usable_20 : decode cX10_usable 20 = .ok (.ifCond .ne 9, 3) := by decide +kernel
theorem dX10_usable_23 : decode cX10_usable 23 = .ok (.iload_n 1, 1) := by decide +kernel
theorem dX10_usable_24 : decode cX10_usable 24 = .ok (.iconst 1, 1) := by decide +kernel
theorem dX10_usable_25 : decode cX10_usable 25 = .ok (.iload_n 2, 1) := by decide +kernel
theorem dX10_usable_26 : decode cX10_usable 26 = .ok (.ishl, 1) := by decide +kernel
theorem dX10_usable_27 : decode cX10_usable 27 = .ok (.ior, 1) := by decide +kernel
theorem dX10_usable_28 : decode cX10_usable 28 = .ok (.istore_n 1, 1) := by decide +kernel
theorem dX10_usable_29 : decode cX10_usable 29 = .ok (.iinc 2 1, 3) := by decide +kernel
theorem dX10_usable_32 : decode cX10_usable 32 = .ok (.goto (-28), 3) := by decide +kernel
theorem dX10_usable_35 : decode cX10_usable 35 = .ok (.iload_n 1, 1) := by decide +kernel
theorem dX10_usable_36 : decode cX10_usable 36 = .ok (.ireturn, 1) := by decide +kernel
theorem dX10_nextUsable_0 : decode cX10_nextUsable 0 = .ok (.aload_n 0, 1) := by decide +kernel
theorem dX10_nextUsable_1 : decode cX10_nextUsable 1 = .ok (.getfield 12, 3) := by decide +kernel
theorem dX10_nextUsable_4 : decode cX10_nextUsable 4 = .ok (.getfield 67, 3) := by decide +kernel
theorem dX10_nextUsable_7 : decode cX10_nextUsable 7 = .ok (.iload_n 1, 1) := by decide +kernel
theorem dX10_nextUsable_8 : decode cX10_nextUsable 8 = .ok (.invokevirtual 70, 3) := by decide +kernel
theorem dX10_nextUsable_11 : decode cX10_nextUsable 11 = .ok (.istore_n 2, 1) := by decide +kernel
theorem dX10_nextUsable_12 : decode cX10_nextUsable 12 = .ok (.iconst (-1), 1) := by decide +kernel
theorem dX10_nextUsable_13 : decode cX10_nextUsable 13 = .ok (.istore_n 3, 1) := by decide +kernel
theorem dX10_nextUsable_14 : decode cX10_nextUsable 14 = .ok (.iconst 0, 1) := by decide +kernel
theorem dX10_nextUsable_15 : decode cX10_nextUsable 15 = .ok (.istore 4, 2) := by decide +kernel
theorem dX10_nextUsable_17 : decode cX10_nextUsable 17 = .ok (.iload 4, 2) := by decide +kernel
theorem dX10_nextUsable_19 : decode cX10_nextUsable 19 = .ok (.iconst 4, 1) := by decide +kernel
theorem dX10_nextUsable_20 : decode cX10_nextUsable 20 = .ok (.if_icmp .ge 84, 3) := by decide +kernel
theorem dX10_nextUsable_23 : decode cX10_nextUsable 23 = .ok (.aload_n 0, 1) := by decide +kernel
theorem dX10_nextUsable_24 : decode cX10_nextUsable 24 = .ok (.getfield 12, 3) := by decide +kernel
theorem dX10_nextUsable_27 : decode cX10_nextUsable 27 = .ok (.iload_n 2, 1) := by decide +kernel
theorem dX10_nextUsable_28 : decode cX10_nextUsable 28 = .ok (.iload 4, 2) := by decide +kernel
theorem dX10_nextUsable_30 : decode cX10_nextUsable 30 = .ok (.invokevirtual 100, 3) := by decide +kernel
theorem dX10_nextUsable_33 : decode cX10_nextUsable 33 = .ok (.istore 5, 2) := by decide +kernel
theorem dX10_nextUsable_35 : decode cX10_nextUsable 35 = .ok (.aload_n 0, 1) := by decide +kernel
theorem dX10_nextUsable_36 : decode cX10_nextUsable 36 = .ok (.getfield 12, 3) := by decide +kernel
theorem dX10_nextUsable_39 : decode cX10_nextUsable 39 = .ok (.getfield 104, 3) := by decide +kernel
theorem dX10_nextUsable_42 : decode cX10_nextUsable 42 = .ok (.iload 5, 2) := by decide +kernel
theorem dX10_nextUsable_44 : decode cX10_nextUsable 44 = .ok (.invokevirtual 70, 3) := by decide +kernel
theorem dX10_nextUsable_47 : decode cX10_nextUsable 47 = .ok (.istore 6, 2) := by decide +kernel
theorem dX10_nextUsable_49 : decode cX10_nextUsable 49 = .ok (.iload 6, 2) := by decide +kernel
theorem dX10_nextUsable_51 : decode cX10_nextUsable 51 = .ok (.aload_n 0, 1) := by decide +kernel
theorem dX10_nextUsable_52 : decode cX10_nextUsable 52 = .ok (.getfield 12, 3) := by decide +kernel
theorem dX10_nextUsable_55 : decode cX10_nextUsable 55 = .ok (.getfield 104, 3) := by decide +kernel
theorem dX10_nextUsable_58 : decode cX10_nextUsable 58 = .ok (.iload_n 1, 1) := by decide +kernel
theorem dX10_nextUsable_59 : decode cX10_nextUsable 59 = .ok (.invokevirtual 70, 3) := by decide +kernel
theorem dX10_nextUsable_62 : decode cX10_nextUsable 62 = .ok (.if_icmp .le 36, 3) := by decide +kernel
theorem dX10_nextUsable_65 : decode cX10_nextUsable 65 = .ok (.aload_n 0, 1) := by decide +kernel
theorem dX10_nextUsable_66 : decode cX10_nextUsable 66 = .ok (.iload 5, 2) := by decide +kernel
theorem dX10_nextUsable_68 : decode cX10_nextUsable 68 = .ok (.invokevirtual 97, 3) := by decide +kernel
theorem dX10_nextUsable_71 : decode cX10_nextUsable 71 = .ok (.ifCond .ne 27, 3) := by decide +kernel
theorem dX10_nextUsable_74 : decode cX10_nextUsable 74 = .ok (.iload_n 3, 1) := by decide +kernel
theorem dX10_nextUsable_75 : decode cX10_nextUsable 75 = .ok (.iconst (-1), 1) := by decide +kernel
theorem dX10_nextUsable_76 : decode cX10_nextUsable 76 = .ok (.if_icmp .eq 19, 3) := by decide +kernel
theorem dX10_nextUsable_79 : decode cX10_nextUsable 79 = .ok (.iload 6, 2) := by decide +kernel
theorem dX10_nextUsable_81 : decode cX10_nextUsable 81 = .ok (.aload_n 0, 1) := by decide +kernel
theorem dX10_nextUsable_82 : decode cX10_nextUsable 82 = .ok (.getfield 12, 3) := by decide +kernel
theorem dX10_nextUsable_85 : decode cX10_nextUsable 85 = .ok (.getfield 104, 3) := by decide +kernel
theorem dX10_nextUsable_88 : decode cX10_nextUsable 88 = .ok (.iload_n 3, 1) := by decide +kernel
theorem dX10_nextUsable_89 : decode cX10_nextUsable 89 = .ok (.invokevirtual 70, 3) := by decide +kernel
theorem dX10_nextUsable_92 : decode cX10_nextUsable 92 = .ok (.if_icmp .ge 6, 3) := by decide +kernel
theorem dX10_nextUsable_95 : decode cX10_nextUsable 95 = .ok (.iload 5, 2) := by decide +kernel
theorem dX10_nextUsable_97 : decode cX10_nextUsable 97 = .ok (.istore_n 3, 1) := by decide +kernel
theorem dX10_nextUsable_98 : decode cX10_nextUsable 98 = .ok (.iinc 4 1, 3) := by decide +kernel
theorem dX10_nextUsable_101 : decode cX10_nextUsable 101 = .ok (.goto (-84), 3) := by decide +kernel
theorem dX10_nextUsable_104 : decode cX10_nextUsable 104 = .ok (.iload_n 3, 1) := by decide +kernel
theorem dX10_nextUsable_105 : decode cX10_nextUsable 105 = .ok (.ireturn, 1) := by decide +kernel
theorem dX10_leadsTo_0 : decode cX10_leadsTo 0 = .ok (.iload_n 1, 1) := by decide +kernel
theorem dX10_leadsTo_1 : decode cX10_leadsTo 1 = .ok (.istore_n 3, 1) := by decide +kernel
theorem dX10_leadsTo_2 : decode cX10_leadsTo 2 = .ok (.iconst 0, 1) := by decide +kernel
theorem dX10_leadsTo_3 : decode cX10_leadsTo 3 = .ok (.istore 4, 2) := by decide +kernel
theorem dX10_leadsTo_5 : decode cX10_leadsTo 5 = .ok (.iload 4, 2) := by decide +kernel
theorem dX10_leadsTo_7 : decode cX10_leadsTo 7 = .ok (.bipush 6, 2) := by decide +kernel
theorem dX10_leadsTo_9 : decode cX10_leadsTo 9 = .ok (.if_icmp .ge 30, 3) := by decide +kernel
theorem dX10_leadsTo_12 : decode cX10_leadsTo 12 = .ok (.iload_n 3, 1) := by decide +kernel
theorem dX10_leadsTo_13 : decode cX10_leadsTo 13 = .ok (.iconst (-1), 1) := by decide +kernel
theorem dX10_leadsTo_14 : decode cX10_leadsTo 14 = .ok (.if_icmp .eq 25, 3) := by decide +kernel
theorem dX10_leadsTo_17 : decode cX10_leadsTo 17 = .ok (.iload_n 3, 1) := by decide +kernel
theorem dX10_leadsTo_18 : decode cX10_leadsTo 18 = .ok (.iload_n 2, 1) := by decide +kernel
theorem dX10_leadsTo_19 : decode cX10_leadsTo 19 = .ok (.if_icmp .ne 5, 3) := by decide +kernel
theorem dX10_leadsTo_22 : decode cX10_leadsTo 22 = .ok (.iconst 1, 1) := by decide +kernel
theorem dX10_leadsTo_23 : decode cX10_leadsTo 23 = .ok (.ireturn, 1) := by decide +kernel
theorem dX10_leadsTo_24 : decode cX10_leadsTo 24 = .ok (.aload_n 0, 1) := by decide +kernel
theorem dX10_leadsTo_25 : decode cX10_leadsTo 25 = .ok (.getfield 54, 3) := by decide +kernel
theorem dX10_leadsTo_28 : decode cX10_leadsTo 28 = .ok (.iload_n 3, 1) := by decide +kernel
theorem dX10_leadsTo_29 : decode cX10_leadsTo 29 = .ok (.invokevirtual 70, 3) := by decide +kernel
theorem dX10_leadsTo_32 : decode cX10_leadsTo 32 = .ok (.istore_n 3, 1) := by decide +kernel
theorem dX10_leadsTo_33 : decode cX10_leadsTo 33 = .ok (.iinc 4 1, 3) := by decide +kernel
theorem dX10_leadsTo_36 : decode cX10_leadsTo 36 = .ok (.goto (-31), 3) := by decide +kernel
theorem dX10_leadsTo_39 : decode cX10_leadsTo 39 = .ok (.iconst 0, 1) := by decide +kernel
theorem dX10_leadsTo_40 : decode cX10_leadsTo 40 = .ok (.ireturn, 1) := by decide +kernel
theorem dX10_redirect_0 : decode cX10_redirect 0 = .ok (.aload_n 0, 1) := by decide +kernel
theorem dX10_redirect_1 : decode cX10_redirect 1 = .ok (.getfield 54, 3) := by decide +kernel
theorem dX10_redirect_4 : decode cX10_redirect 4 = .ok (.iload_n 1, 1) := by decide +kernel
theorem dX10_redirect_5 : decode cX10_redirect 5 = .ok (.iload_n 2, 1) := by decide +kernel
theorem dX10_redirect_6 : decode cX10_redirect 6 = .ok (.invokevirtual 107, 3) := by decide +kernel
theorem dX10_redirect_9 : decode cX10_redirect 9 = .ok (.istore_n 3, 1) := by decide +kernel
theorem dX10_redirect_10 : decode cX10_redirect 10 = .ok (.iconst 0, 1) := by decide +kernel
theorem dX10_redirect_11 : decode cX10_redirect 11 = .ok (.istore 4, 2) := by decide +kernel
theorem dX10_redirect_13 : decode cX10_redirect 13 = .ok (.iload 4, 2) := by decide +kernel
theorem dX10_redirect_15 : decode cX10_redirect 15 = .ok (.bipush 6, 2) := by decide +kernel
theorem dX10_redirect_17 : decode cX10_redirect 17 = .ok (.if_icmp .ge 24, 3) := by decide +kernel
theorem dX10_redirect_20 : decode cX10_redirect 20 = .ok (.aload_n 0, 1) := by decide +kernel
theorem dX10_redirect_21 : decode cX10_redirect 21 = .ok (.getfield 57, 3) := by decide +kernel
theorem dX10_redirect_24 : decode cX10_redirect 24 = .ok (.iload 4, 2) := by decide +kernel
theorem dX10_redirect_26 : decode cX10_redirect 26 = .ok (.aload_n 0, 1) := by decide +kernel
theorem dX10_redirect_27 : decode cX10_redirect 27 = .ok (.iload 4, 2) := by decide +kernel
theorem dX10_redirect_29 : decode cX10_redirect 29 = .ok (.invokevirtual 110, 3) := by decide +kernel
theorem dX10_redirect_32 : decode cX10_redirect 32 = .ok (.invokevirtual 60, 3) := by decide +kernel
theorem dX10_redirect_35 : decode cX10_redirect 35 = .ok (.iinc 4 1, 3) := by decide +kernel
theorem dX10_redirect_38 : decode cX10_redirect 38 = .ok (.goto (-25), 3) := by decide +kernel
theorem dX10_redirect_41 : decode cX10_redirect 41 = .ok (.iload_n 3, 1) := by decide +kernel
theorem dX10_redirect_42 : decode cX10_redirect 42 = .ok (.ireturn, 1) := by decide +kernel
theorem dX10_lastSuccessor_0 : decode cX10_lastSuccessor 0 = .ok (.iload_n 1, 1) := by decide +kernel
theorem dX10_lastSuccessor_1 : decode cX10_lastSuccessor 1 = .ok (.istore_n 2, 1) := by decide +kernel
theorem dX10_lastSuccessor_2 : decode cX10_lastSuccessor 2 = .ok (.iconst 0, 1) := by decide +kernel
theorem dX10_lastSuccessor_3 : decode cX10_lastSuccessor 3 = .ok (.istore_n 3, 1) := by decide +kernel
theorem dX10_lastSuccessor_4 : decode cX10_lastSuccessor 4 = .ok (.iload_n 3, 1) := by decide +kernel
theorem dX10_lastSuccessor_5 : decode cX10_lastSuccessor 5 = .ok (.bipush 6, 2) := by decide +kernel
theorem dX10_lastSuccessor_7 : decode cX10_lastSuccessor 7 = .ok (.if_icmp .ge 30, 3) := by decide +kernel
theorem dX10_lastSuccessor_10 : decode cX10_lastSuccessor 10 = .ok (.aload_n 0, 1) := by decide +kernel
theorem dX10_lastSuccessor_11 : decode cX10_lastSuccessor 11 = .ok (.getfield 54, 3) := by decide +kernel
theorem dX10_lastSuccessor_14 : decode cX10_lastSuccessor 14 = .ok (.iload_n 2, 1) := by decide +kernel
theorem dX10_lastSuccessor_15 : decode cX10_lastSuccessor 15 = .ok (.invokevirtual 70, 3) := by decide +kernel
theorem dX10_lastSuccessor_18 : decode cX10_lastSuccessor 18 = .ok (.iconst (-1), 1) := by decide +kernel
theorem dX10_lastSuccessor_19 : decode cX10_lastSuccessor 19 = .ok (.if_icmp .eq 18, 3) := by decide +kernel
theorem dX10_lastSuccessor_22 : decode cX10_lastSuccessor 22 = .ok (.aload_n 0, 1) := by decide +kernel
theorem dX10_lastSuccessor_23 : decode cX10_lastSuccessor 23 = .ok (.getfield 54, 3) := by decide +kernel
theorem dX10_lastSuccessor_26 : decode cX10_lastSuccessor 26 = .ok (.iload_n 2, 1) := by decide +kernel
theorem dX10_lastSuccessor_27 : decode cX10_lastSuccessor 27 = .ok (.invokevirtual 70, 3) := by decide +kernel
theorem dX10_lastSuccessor_30 : decode cX10_lastSuccessor 30 = .ok (.istore_n 2, 1) := by decide +kernel
theorem dX10_lastSuccessor_31 : decode cX10_lastSuccessor 31 = .ok (.iinc 3 1, 3) := by decide +kernel
theorem dX10_lastSuccessor_34 : decode cX10_lastSuccessor 34 = .ok (.goto (-30), 3) := by decide +kernel
theorem dX10_lastSuccessor_37 : decode cX10_lastSuccessor 37 = .ok (.iload_n 2, 1) := by decide +kernel
theorem dX10_lastSuccessor_38 : decode cX10_lastSuccessor 38 = .ok (.ireturn, 1) := by decide +kernel
theorem dX10_targetOfDemand_0 : decode cX10_targetOfDemand 0 = .ok (.aload_n 0, 1) := by decide +kernel
theorem dX10_targetOfDemand_1 : decode cX10_targetOfDemand 1 = .ok (.getfield 57, 3) := by decide +kernel
theorem dX10_targetOfDemand_4 : decode cX10_targetOfDemand 4 = .ok (.aload_n 0, 1) := by decide +kernel
theorem dX10_targetOfDemand_5 : decode cX10_targetOfDemand 5 = .ok (.getfield 35, 3) := by decide +kernel
theorem dX10_targetOfDemand_8 : decode cX10_targetOfDemand 8 = .ok (.getfield 113, 3) := by decide +kernel
theorem dX10_targetOfDemand_11 : decode cX10_targetOfDemand 11 = .ok (.iload_n 1, 1) := by decide +kernel
theorem dX10_targetOfDemand_12 : decode cX10_targetOfDemand 12 = .ok (.invokevirtual 70, 3) := by decide +kernel
theorem dX10_targetOfDemand_15 : decode cX10_targetOfDemand 15 = .ok (.invokevirtual 70, 3) := by decide +kernel
theorem dX10_targetOfDemand_18 : decode cX10_targetOfDemand 18 = .ok (.ireturn, 1) := by decide +kernel
theorem dX10_targetOfNeed_0 : decode cX10_targetOfNeed 0 = .ok (.aload_n 0, 1) := by decide +kernel
theorem dX10_targetOfNeed_1 : decode cX10_targetOfNeed 1 = .ok (.getfield 57, 3) := by decide +kernel
theorem dX10_targetOfNeed_4 : decode cX10_targetOfNeed 4 = .ok (.aload_n 0, 1) := by decide +kernel
theorem dX10_targetOfNeed_5 : decode cX10_targetOfNeed 5 = .ok (.getfield 28, 3) := by decide +kernel
theorem dX10_targetOfNeed_8 : decode cX10_targetOfNeed 8 = .ok (.getfield 116, 3) := by decide +kernel
theorem dX10_targetOfNeed_11 : decode cX10_targetOfNeed 11 = .ok (.iload_n 1, 1) := by decide +kernel
theorem dX10_targetOfNeed_12 : decode cX10_targetOfNeed 12 = .ok (.invokevirtual 70, 3) := by decide +kernel
theorem dX10_targetOfNeed_15 : decode cX10_targetOfNeed 15 = .ok (.invokevirtual 70, 3) := by decide +kernel
theorem dX10_targetOfNeed_18 : decode cX10_targetOfNeed 18 = .ok (.ireturn, 1) := by decide +kernel
theorem dX10_counts_0 : decode cX10_counts 0 = .ok (.aload_n 0, 1) := by decide +kernel
theorem dX10_counts_1 : decode cX10_counts 1 = .ok (.getfield 28, 3) := by decide +kernel
theorem dX10_counts_4 : decode cX10_counts 4 = .ok (.getfield 117, 3) := by decide +kernel
theorem dX10_counts_7 : decode cX10_counts 7 = .ok (.iload_n 1, 1) := by decide +kernel
theorem dX10_counts_8 : decode cX10_counts 8 = .ok (.invokevirtual 70, 3) := by decide +kernel
theorem dX10_counts_11 : decode cX10_counts 11 = .ok (.istore_n 3, 1) := by decide +kernel
theorem dX10_counts_12 : decode cX10_counts 12 = .ok (.aload_n 0, 1) := by decide +kernel
theorem dX10_counts_13 : decode cX10_counts 13 = .ok (.getfield 28, 3) := by decide +kernel
theorem dX10_counts_16 : decode cX10_counts 16 = .ok (.getfield 120, 3) := by decide +kernel
theorem dX10_counts_19 : decode cX10_counts 19 = .ok (.iload_n 1, 1) := by decide +kernel
theorem dX10_counts_20 : decode cX10_counts 20 = .ok (.invokevirtual 70, 3) := by decide +kernel
theorem dX10_counts_23 : decode cX10_counts 23 = .ok (.aload_n 0, 1) := by decide +kernel
theorem dX10_counts_24 : decode cX10_counts 24 = .ok (.getfield 84, 3) := by decide +kernel
theorem dX10_counts_27 : decode cX10_counts 27 = .ok (.invokestatic 87, 3) := by decide +kernel
theorem dX10_counts_30 : decode cX10_counts 30 = .ok (.ifCond .eq 20, 3) := by decide +kernel
theorem dX10_counts_33 : decode cX10_counts 33 = .ok (.iload_n 3, 1) := by decide +kernel
theorem dX10_counts_34 : decode cX10_counts 34 = .ok (.iconst (-1), 1) := by decide +kernel
theorem dX10_counts_35 : decode cX10_counts 35 = .ok (.if_icmp .eq 11, 3) := by decide +kernel
theorem dX10_counts_38 : decode cX10_counts 38 = .ok (.iload_n 2, 1) := by decide +kernel
theorem dX10_counts_39 : decode cX10_counts 39 = .ok (.iload_n 3, 1) := by decide +kernel
theorem dX10_counts_40 : decode cX10_counts 40 = .ok (.invokestatic 87, 3) := by decide +kernel
theorem dX10_counts_43 : decode cX10_counts 43 = .ok (.ifCond .eq 7, 3) := by decide +kernel
theorem dX10_counts_46 : decode cX10_counts 46 = .ok (.iconst 1, 1) := by decide +kernel
theorem dX10_counts_47 : decode cX10_counts 47 = .ok (.goto 4, 3) := by decide +kernel
theorem dX10_counts_50 : decode cX10_counts 50 = .ok (.iconst 0, 1) := by decide +kernel
theorem dX10_counts_51 : decode cX10_counts 51 = .ok (.ireturn, 1) := by decide +kernel
theorem dX10_pulledBy_0 : decode cX10_pulledBy 0 = .ok (.iconst 0, 1) := by decide +kernel
theorem dX10_pulledBy_1 : decode cX10_pulledBy 1 = .ok (.istore_n 3, 1) := by decide +kernel
theorem dX10_pulledBy_2 : decode cX10_pulledBy 2 = .ok (.aload_n 0, 1) := by decide +kernel
theorem dX10_pulledBy_3 : decode cX10_pulledBy 3 = .ok (.getfield 28, 3) := by decide +kernel
theorem dX10_pulledBy_6 : decode cX10_pulledBy 6 = .ok (.iload_n 1, 1) := by decide +kernel
theorem dX10_pulledBy_7 : decode cX10_pulledBy 7 = .ok (.invokevirtual 121, 3) := by decide +kernel
theorem dX10_pulledBy_10 : decode cX10_pulledBy 10 = .ok (.istore 4, 2) := by decide +kernel
theorem dX10_pulledBy_12 : decode cX10_pulledBy 12 = .ok (.aload_n 0, 1) := by decide +kernel
theorem dX10_pulledBy_13 : decode cX10_pulledBy 13 = .ok (.getfield 28, 3) := by decide +kernel
theorem dX10_pulledBy_16 : decode cX10_pulledBy 16 = .ok (.iload_n 1, 1) := by decide +kernel
theorem dX10_pulledBy_17 : decode cX10_pulledBy 17 = .ok (.invokevirtual 124, 3) := by decide +kernel
theorem dX10_pulledBy_20 : decode cX10_pulledBy 20 = .ok (.istore 5, 2) := by decide +kernel
theorem dX10_pulledBy_22 : decode cX10_pulledBy 22 = .ok (.iload 5, 2) := by decide +kernel
theorem dX10_pulledBy_24 : decode cX10_pulledBy 24 = .ok (.iload 4, 2) := by decide +kernel
theorem dX10_pulledBy_26 : decode cX10_pulledBy 26 = .ok (.if_icmp .ge 46, 3) := by decide +kernel
theorem dX10_pulledBy_29 : decode cX10_pulledBy 29 = .ok (.aload_n 0, 1) := by decide +kernel
theorem dX10_pulledBy_30 : decode cX10_pulledBy 30 = .ok (.getfield 28, 3) := by decide +kernel
theorem dX10_pulledBy_33 : decode cX10_pulledBy 33 = .ok (.getfield 127, 3) := by decide +kernel
theorem dX10_pulledBy_36 : decode cX10_pulledBy 36 = .ok (.iload 5, 2) := by decide +kernel
theorem dX10_pulledBy_38 : decode cX10_pulledBy 38 = .ok (.invokevirtual 70, 3) := by decide +kernel
theorem dX10_pulledBy_41 : decode cX10_pulledBy 41 = .ok (.iconst 2, 1) := by decide +kernel
theorem dX10_pulledBy_42 : decode cX10_pulledBy 42 = .ok (.if_icmp .eq 24, 3) := by decide +kernel
theorem dX10_pulledBy_45 : decode cX10_pulledBy 45 = .ok (.aload_n 0, 1) := by decide +kernel
theorem dX10_pulledBy_46 : decode cX10_pulledBy 46 = .ok (.iload 5, 2) := by decide +kernel
theorem dX10_pulledBy_48 : decode cX10_pulledBy 48 = .ok (.iload_n 2, 1) := by decide +kernel
theorem dX10_pulledBy_49 : decode cX10_pulledBy 49 = .ok (.invokevirtual 130, 3) := by decide +kernel
theorem dX10_pulledBy_52 : decode cX10_pulledBy 52 = .ok (.ifCond .eq 14, 3) := by decide +kernel
theorem dX10_pulledBy_55 : decode cX10_pulledBy 55 = .ok (.iload_n 3, 1) := by decide +kernel
theorem dX10_pulledBy_56 : decode cX10_pulledBy 56 = .ok (.iconst 1, 1) := by decide +kernel
theorem dX10_pulledBy_57 : decode cX10_pulledBy 57 = .ok (.aload_n 0, 1) := by decide +kernel
theorem dX10_pulledBy_58 : decode cX10_pulledBy 58 = .ok (.iload 5, 2) := by decide +kernel
theorem dX10_pulledBy_60 : decode cX10_pulledBy 60 = .ok (.invokevirtual 133, 3) := by decide +kernel
theorem dX10_pulledBy_63 : decode cX10_pulledBy 63 = .ok (.ishl, 1) := by decide +kernel
theorem dX10_pulledBy_64 : decode cX10_pulledBy 64 = .ok (.ior, 1) := by decide +kernel
theorem dX10_pulledBy_65 : decode cX10_pulledBy 65 = .ok (.istore_n 3, 1) := by decide +kernel
theorem dX10_pulledBy_66 : decode cX10_pulledBy 66 = .ok (.iinc 5 1, 3) := by decide +kernel
theorem dX10_pulledBy_69 : decode cX10_pulledBy 69 = .ok (.goto (-47), 3) := by decide +kernel
theorem dX10_pulledBy_72 : decode cX10_pulledBy 72 = .ok (.iload_n 3, 1) := by decide +kernel
theorem dX10_pulledBy_73 : decode cX10_pulledBy 73 = .ok (.ireturn, 1) := by decide +kernel
theorem dX10_refuses_0 : decode cX10_refuses 0 = .ok (.aload_n 0, 1) := by decide +kernel
theorem dX10_refuses_1 : decode cX10_refuses 1 = .ok (.getfield 12, 3) := by decide +kernel
theorem dX10_refuses_4 : decode cX10_refuses 4 = .ok (.getfield 67, 3) := by decide +kernel
theorem dX10_refuses_7 : decode cX10_refuses 7 = .ok (.iload_n 2, 1) := by decide +kernel
theorem dX10_refuses_8 : decode cX10_refuses 8 = .ok (.invokevirtual 70, 3) := by decide +kernel
theorem dX10_refuses_11 : decode cX10_refuses 11 = .ok (.istore_n 3, 1) := by decide +kernel
theorem dX10_refuses_12 : decode cX10_refuses 12 = .ok (.iconst 0, 1) := by decide +kernel
theorem dX10_refuses_13 : decode cX10_refuses 13 = .ok (.istore 4, 2) := by decide +kernel
theorem dX10_refuses_15 : decode cX10_refuses 15 = .ok (.iload 4, 2) := by decide +kernel
theorem dX10_refuses_17 : decode cX10_refuses 17 = .ok (.aload_n 0, 1) := by decide +kernel
theorem dX10_refuses_18 : decode cX10_refuses 18 = .ok (.getfield 35, 3) := by decide +kernel
theorem dX10_refuses_21 : decode cX10_refuses 21 = .ok (.getfield 136, 3) := by decide +kernel
theorem dX10_refuses_24 : decode cX10_refuses 24 = .ok (.if_icmp .ge 53, 3) := by decide +kernel
theorem dX10_refuses_27 : decode cX10_refuses 27 = .ok (.iload_n 1, 1) := by decide +kernel
theorem dX10_refuses_28 : decode cX10_refuses 28 = .ok (.iload 4, 2) := by decide +kernel
theorem dX10_refuses_30 : decode cX10_refuses 30 = .ok (.invokestatic 87, 3) := by decide +kernel
theorem dX10_refuses_33 : decode cX10_refuses 33 = .ok (.ifCond .eq 38, 3) := by decide +kernel
theorem dX10_refuses_36 : decode cX10_refuses 36 = .ok (.aload_n 0, 1) := by decide +kernel
theorem dX10_refuses_37 : decode cX10_refuses 37 = .ok (.iload 4, 2) := by decide +kernel
theorem dX10_refuses_39 : decode cX10_refuses 39 = .ok (.invokevirtual 137, 3) := by decide +kernel
theorem dX10_refuses_42 : decode cX10_refuses 42 = .ok (.iload_n 3, 1) := by decide +kernel
theorem dX10_refuses_43 : decode cX10_refuses 43 = .ok (.if_icmp .ne 28, 3) := by decide +kernel
theorem dX10_refuses_46 : decode cX10_refuses 46 = .ok (.aload_n 0, 1) := by decide +kernel
theorem dX10_refuses_47 : decode cX10_refuses 47 = .ok (.getfield 21, 3) := by decide +kernel
theorem dX10_refuses_50 : decode cX10_refuses 50 = .ok (.aload_n 0, 1) := by decide +kernel
theorem dX10_refuses_51 : decode cX10_refuses 51 = .ok (.getfield 35, 3) := by decide +kernel
theorem dX10_refuses_54 : decode cX10_refuses 54 = .ok (.getfield 140, 3) := by decide +kernel
theorem dX10_refuses_57 : decode cX10_refuses 57 = .ok (.iload 4, 2) := by decide +kernel
theorem dX10_refuses_59 : decode cX10_refuses 59 = .ok (.invokevirtual 70, 3) := by decide +kernel
theorem dX10_refuses_62 : decode cX10_refuses 62 = .ok (.iload_n 2, 1) := by decide +kernel
theorem dX10_refuses_63 : decode cX10_refuses 63 = .ok (.invokevirtual 91, 3) := by decide +kernel
theorem dX10_refuses_66 : decode cX10_refuses 66 = .ok (.ifCond .ne 5, 3) := by decide +kernel
theorem dX10_refuses_69 : decode cX10_refuses 69 = .ok (.iconst 1, 1) := by decide +kernel
theorem dX10_refuses_70 : decode cX10_refuses 70 = .ok (.ireturn, 1) := by decide +kernel
theorem dX10_refuses_71 : decode cX10_refuses 71 = .ok (.iinc 4 1, 3) := by decide +kernel
theorem dX10_refuses_74 : decode cX10_refuses 74 = .ok (.goto (-59), 3) := by decide +kernel
theorem dX10_refuses_77 : decode cX10_refuses 77 = .ok (.iconst 0, 1) := by decide +kernel
theorem dX10_refuses_78 : decode cX10_refuses 78 = .ok (.ireturn, 1) := by decide +kernel
theorem dX10_demanded_0 : decode cX10_demanded 0 = .ok (.iconst 0, 1) := by decide +kernel
theorem dX10_demanded_1 : decode cX10_demanded 1 = .ok (.istore_n 2, 1) := by decide +kernel
theorem dX10_demanded_2 : decode cX10_demanded 2 = .ok (.iconst 0, 1) := by decide +kernel
theorem dX10_demanded_3 : decode cX10_demanded 3 = .ok (.istore_n 3, 1) := by decide +kernel
theorem dX10_demanded_4 : decode cX10_demanded 4 = .ok (.iload_n 3, 1) := by decide +kernel
theorem dX10_demanded_5 : decode cX10_demanded 5 = .ok (.aload_n 0, 1) := by decide +kernel
theorem dX10_demanded_6 : decode cX10_demanded 6 = .ok (.getfield 35, 3) := by decide +kernel
theorem dX10_demanded_9 : decode cX10_demanded 9 = .ok (.getfield 136, 3) := by decide +kernel
theorem dX10_demanded_12 : decode cX10_demanded 12 = .ok (.if_icmp .ge 27, 3) := by decide +kernel
theorem dX10_demanded_15 : decode cX10_demanded 15 = .ok (.iload_n 1, 1) := by decide +kernel
theorem dX10_demanded_16 : decode cX10_demanded 16 = .ok (.iload_n 3, 1) := by decide +kernel
theorem dX10_demanded_17 : decode cX10_demanded 17 = .ok (.invokestatic 87, 3) := by decide +kernel
theorem dX10_demanded_20 : decode cX10_demanded 20 = .ok (.ifCond .eq 13, 3) := by decide +kernel
theorem dX10_demanded_23 : decode cX10_demanded 23 = .ok (.iload_n 2, 1) := by decide +kernel
theorem dX10_demanded_24 : decode cX10_demanded 24 = .ok (.iconst 1, 1) := by decide +kernel
theorem dX10_demanded_25 : decode cX10_demanded 25 = .ok (.aload_n 0, 1) := by decide +kernel
theorem dX10_demanded_26 : decode cX10_demanded 26 = .ok (.iload_n 3, 1) := by decide +kernel
theorem dX10_demanded_27 : decode cX10_demanded 27 = .ok (.invokevirtual 137, 3) := by decide +kernel
theorem dX10_demanded_30 : decode cX10_demanded 30 = .ok (.ishl, 1) := by decide +kernel
theorem dX10_demanded_31 : decode cX10_demanded 31 = .ok (.ior, 1) := by decide +kernel
theorem dX10_demanded_32 : decode cX10_demanded 32 = .ok (.istore_n 2, 1) := by decide +kernel
theorem dX10_demanded_33 : decode cX10_demanded 33 = .ok (.iinc 3 1, 3) := by decide +kernel
theorem dX10_demanded_36 : decode cX10_demanded 36 = .ok (.goto (-32), 3) := by decide +kernel
theorem dX10_demanded_39 : decode cX10_demanded 39 = .ok (.iload_n 2, 1) := by decide +kernel
theorem dX10_demanded_40 : decode cX10_demanded 40 = .ok (.ireturn, 1) := by decide +kernel
theorem dJ6_compare_7cf53_0 : decode cJ6_compare_7cf53 0 = .ok (.iload_n 0, 1) := by decide +kernel
theorem dJ6_compare_7cf53_1 : decode cJ6_compare_7cf53 1 = .ok (.iload_n 1, 1) := by decide +kernel
theorem dJ6_compare_7cf53_2 : decode cJ6_compare_7cf53 2 = .ok (.if_icmp .ge 7, 3) := by decide +kernel
theorem dJ6_compare_7cf53_5 : decode cJ6_compare_7cf53 5 = .ok (.iconst (-1), 1) := by decide +kernel
theorem dJ6_compare_7cf53_6 : decode cJ6_compare_7cf53 6 = .ok (.goto 13, 3) := by decide +kernel
theorem dJ6_compare_7cf53_9 : decode cJ6_compare_7cf53 9 = .ok (.iload_n 0, 1) := by decide +kernel
theorem dJ6_compare_7cf53_10 : decode cJ6_compare_7cf53 10 = .ok (.iload_n 1, 1) := by decide +kernel
theorem dJ6_compare_7cf53_11 : decode cJ6_compare_7cf53 11 = .ok (.if_icmp .ne 7, 3) := by decide +kernel
theorem dJ6_compare_7cf53_14 : decode cJ6_compare_7cf53 14 = .ok (.iconst 0, 1) := by decide +kernel
theorem dJ6_compare_7cf53_15 : decode cJ6_compare_7cf53 15 = .ok (.goto 4, 3) := by decide +kernel
theorem dJ6_compare_7cf53_18 : decode cJ6_compare_7cf53 18 = .ok (.iconst 1, 1) := by decide +kernel
theorem dJ6_compare_7cf53_19 : decode cJ6_compare_7cf53 19 = .ok (.ireturn, 1) := by decide +kernel
theorem dJ6_bitCount_0f7a4_0 : decode cJ6_bitCount_0f7a4 0 = .ok (.iload_n 0, 1) := by decide +kernel
theorem dJ6_bitCount_0f7a4_1 : decode cJ6_bitCount_0f7a4 1 = .ok (.iload_n 0, 1) := by decide +kernel
theorem dJ6_bitCount_0f7a4_2 : decode cJ6_bitCount_0f7a4 2 = .ok (.iconst 1, 1) := by decide +kernel
theorem dJ6_bitCount_0f7a4_3 : decode cJ6_bitCount_0f7a4 3 = .ok (.iushr, 1) := by decide +kernel
theorem dJ6_bitCount_0f7a4_4 : decode cJ6_bitCount_0f7a4 4 = .ok (.ldc_w 265, 3) := by decide +kernel
theorem dJ6_bitCount_0f7a4_7 : decode cJ6_bitCount_0f7a4 7 = .ok (.iand, 1) := by decide +kernel
theorem dJ6_bitCount_0f7a4_8 : decode cJ6_bitCount_0f7a4 8 = .ok (.isub, 1) := by decide +kernel
theorem dJ6_bitCount_0f7a4_9 : decode cJ6_bitCount_0f7a4 9 = .ok (.istore_n 0, 1) := by decide +kernel
theorem dJ6_bitCount_0f7a4_10 : decode cJ6_bitCount_0f7a4 10 = .ok (.iload_n 0, 1) := by decide +kernel
theorem dJ6_bitCount_0f7a4_11 : decode cJ6_bitCount_0f7a4 11 = .ok (.ldc_w 266, 3) := by decide +kernel
theorem dJ6_bitCount_0f7a4_14 : decode cJ6_bitCount_0f7a4 14 = .ok (.iand, 1) := by decide +kernel
theorem dJ6_bitCount_0f7a4_15 : decode cJ6_bitCount_0f7a4 15 = .ok (.iload_n 0, 1) := by decide +kernel
theorem dJ6_bitCount_0f7a4_16 : decode cJ6_bitCount_0f7a4 16 = .ok (.iconst 2, 1) := by decide +kernel
theorem dJ6_bitCount_0f7a4_17 : decode cJ6_bitCount_0f7a4 17 = .ok (.iushr, 1) := by decide +kernel
theorem dJ6_bitCount_0f7a4_18 : decode cJ6_bitCount_0f7a4 18 = .ok (.ldc_w 266, 3) := by decide +kernel
theorem dJ6_bitCount_0f7a4_21 : decode cJ6_bitCount_0f7a4 21 = .ok (.iand, 1) := by decide +kernel
theorem dJ6_bitCount_0f7a4_22 : decode cJ6_bitCount_0f7a4 22 = .ok (.iadd, 1) := by decide +kernel
theorem dJ6_bitCount_0f7a4_23 : decode cJ6_bitCount_0f7a4 23 = .ok (.istore_n 0, 1) := by decide +kernel
theorem dJ6_bitCount_0f7a4_24 : decode cJ6_bitCount_0f7a4 24 = .ok (.iload_n 0, 1) := by decide +kernel
theorem dJ6_bitCount_0f7a4_25 : decode cJ6_bitCount_0f7a4 25 = .ok (.iload_n 0, 1) := by decide +kernel
theorem dJ6_bitCount_0f7a4_26 : decode cJ6_bitCount_0f7a4 26 = .ok (.iconst 4, 1) := by decide +kernel
theorem dJ6_bitCount_0f7a4_27 : decode cJ6_bitCount_0f7a4 27 = .ok (.iushr, 1) := by decide +kernel
theorem dJ6_bitCount_0f7a4_28 : decode cJ6_bitCount_0f7a4 28 = .ok (.iadd, 1) := by decide +kernel
theorem dJ6_bitCount_0f7a4_29 : decode cJ6_bitCount_0f7a4 29 = .ok (.ldc_w 267, 3) := by decide +kernel
theorem dJ6_bitCount_0f7a4_32 : decode cJ6_bitCount_0f7a4 32 = .ok (.iand, 1) := by decide +kernel
theorem dJ6_bitCount_0f7a4_33 : decode cJ6_bitCount_0f7a4 33 = .ok (.istore_n 0, 1) := by decide +kernel
theorem dJ6_bitCount_0f7a4_34 : decode cJ6_bitCount_0f7a4 34 = .ok (.iload_n 0, 1) := by decide +kernel
theorem dJ6_bitCount_0f7a4_35 : decode cJ6_bitCount_0f7a4 35 = .ok (.iload_n 0, 1) := by decide +kernel
theorem dJ6_bitCount_0f7a4_36 : decode cJ6_bitCount_0f7a4 36 = .ok (.bipush 8, 2) := by decide +kernel
theorem dJ6_bitCount_0f7a4_38 : decode cJ6_bitCount_0f7a4 38 = .ok (.iushr, 1) := by decide +kernel
theorem dJ6_bitCount_0f7a4_39 : decode cJ6_bitCount_0f7a4 39 = .ok (.iadd, 1) := by decide +kernel
theorem dJ6_bitCount_0f7a4_40 : decode cJ6_bitCount_0f7a4 40 = .ok (.istore_n 0, 1) := by decide +kernel
theorem dJ6_bitCount_0f7a4_41 : decode cJ6_bitCount_0f7a4 41 = .ok (.iload_n 0, 1) := by decide +kernel
theorem dJ6_bitCount_0f7a4_42 : decode cJ6_bitCount_0f7a4 42 = .ok (.iload_n 0, 1) := by decide +kernel
theorem dJ6_bitCount_0f7a4_43 : decode cJ6_bitCount_0f7a4 43 = .ok (.bipush 16, 2) := by decide +kernel
theorem dJ6_bitCount_0f7a4_45 : decode cJ6_bitCount_0f7a4 45 = .ok (.iushr, 1) := by decide +kernel
theorem dJ6_bitCount_0f7a4_46 : decode cJ6_bitCount_0f7a4 46 = .ok (.iadd, 1) := by decide +kernel
theorem dJ6_bitCount_0f7a4_47 : decode cJ6_bitCount_0f7a4 47 = .ok (.istore_n 0, 1) := by decide +kernel
theorem dJ6_bitCount_0f7a4_48 : decode cJ6_bitCount_0f7a4 48 = .ok (.iload_n 0, 1) := by decide +kernel
theorem dJ6_bitCount_0f7a4_49 : decode cJ6_bitCount_0f7a4 49 = .ok (.bipush 63, 2) := by decide +kernel
theorem dJ6_bitCount_0f7a4_51 : decode cJ6_bitCount_0f7a4 51 = .ok (.iand, 1) := by decide +kernel
theorem dJ6_bitCount_0f7a4_52 : decode cJ6_bitCount_0f7a4 52 = .ok (.ireturn, 1) := by decide +kernel
theorem dJ7_fill_53178_0 : decode cJ7_fill_53178 0 = .ok (.iconst 0, 1) := by decide +kernel
theorem dJ7_fill_53178_1 : decode cJ7_fill_53178 1 = .ok (.istore_n 2, 1) := by decide +kernel
theorem dJ7_fill_53178_2 : decode cJ7_fill_53178 2 = .ok (.aload_n 0, 1) := by decide +kernel
theorem dJ7_fill_53178_3 : decode cJ7_fill_53178 3 = .ok (.arraylength, 1) := by decide +kernel
theorem dJ7_fill_53178_4 : decode cJ7_fill_53178 4 = .ok (.istore_n 3, 1) := by decide +kernel
theorem dJ7_fill_53178_5 : decode cJ7_fill_53178 5 = .ok (.iload_n 2, 1) := by decide +kernel
theorem dJ7_fill_53178_6 : decode cJ7_fill_53178 6 = .ok (.iload_n 3, 1) := by decide +kernel
theorem dJ7_fill_53178_7 : decode cJ7_fill_53178 7 = .ok (.if_icmp .ge 13, 3) := by decide +kernel
theorem dJ7_fill_53178_10 : decode cJ7_fill_53178 10 = .ok (.aload_n 0, 1) := by decide +kernel
theorem dJ7_fill_53178_11 : decode cJ7_fill_53178 11 = .ok (.iload_n 2, 1) := by decide +kernel
theorem dJ7_fill_53178_12 : decode cJ7_fill_53178 12 = .ok (.iload_n 1, 1) := by decide +kernel
theorem dJ7_fill_53178_13 : decode cJ7_fill_53178 13 = .ok (.iastore, 1) := by decide +kernel
theorem dJ7_fill_53178_14 : decode cJ7_fill_53178 14 = .ok (.iinc 2 1, 3) := by decide +kernel
theorem dJ7_fill_53178_17 : decode cJ7_fill_53178 17 = .ok (.goto (-12), 3) := by decide +kernel
theorem dJ7_fill_53178_20 : decode cJ7_fill_53178 20 = .ok (.return_, 1) := by decide +kernel
end
section
theorem dX11_init_0 : decode cX11_init 0 = .ok (.aload_n 0, 1) := by decide +kernel
theorem dX11_init_1 : decode cX11_init 1 = .ok (.invokespecial 3, 3) := by decide +kernel
theorem dX11_init_4 : decode cX11_init 4 = .ok (.new 9, 3) := by decide +kernel
theorem dX11_init_7 : decode cX11_init 7 = .ok (.dup, 1) := by decide +kernel
theorem dX11_init_8 : decode cX11_init 8 = .ok (.invokespecial 11, 3) := by decide +kernel
theorem dX11_init_11 : decode cX11_init 11 = .ok (.astore_n 1, 1) := by decide +kernel
theorem dX11_init_12 : decode cX11_init 12 = .ok (.new 12, 3) := by decide +kernel
theorem dX11_init_15 : decode cX11_init 15 = .ok (.dup, 1) := by decide +kernel
theorem dX11_init_16 : decode cX11_init 16 = .ok (.aload_n 1, 1) := by decide +kernel
theorem dX11_init_17 : decode cX11_init 17 = .ok (.invokespecial 14, 3) := by decide +kernel
theorem dX11_init_20 : decode cX11_init 20 = .ok (.astore_n 2, 1) := by decide +kernel
theorem dX11_init_21 : decode cX11_init 21 = .ok (.aload_n 0, 1) := by decide +kernel
theorem dX11_init_22 : decode cX11_init 22 = .ok (.aload_n 1, 1) := by decide +kernel
theorem dX11_init_23 : decode cX11_init 23 = .ok (.putfield 17, 3) := by decide +kernel
theorem dX11_init_26 : decode cX11_init 26 = .ok (.aload_n 0, 1) := by decide +kernel
theorem dX11_init_27 : decode cX11_init 27 = .ok (.aload_n 2, 1) := by decide +kernel
theorem dX11_init_28 : decode cX11_init 28 = .ok (.putfield 21, 3) := by decide +kernel
theorem dX11_init_31 : decode cX11_init 31 = .ok (.aload_n 0, 1) := by decide +kernel
theorem dX11_init_32 : decode cX11_init 32 = .ok (.new 25, 3) := by decide +kernel
theorem dX11_init_35 : decode cX11_init 35 = .ok (.dup, 1) := by decide +kernel
theorem dX11_init_36 : decode cX11_init 36 = .ok (.aload_n 1, 1) := by decide +kernel
theorem dX11_init_37 : decode cX11_init 37 = .ok (.aload_n 2, 1) := by decide +kernel
theorem dX11_init_38 : decode cX11_init 38 = .ok (.invokespecial 27, 3) := by decide +kernel
theorem dX11_init_41 : decode cX11_init 41 = .ok (.putfield 30, 3) := by decide +kernel
theorem dX11_init_44 : decode cX11_init 44 = .ok (.aload_n 0, 1) := by decide +kernel
theorem dX11_init_45 : decode cX11_init 45 = .ok (.new 34, 3) := by decide +kernel
theorem dX11_init_48 : decode cX11_init 48 = .ok (.dup, 1) := by decide +kernel
theorem dX11_init_49 : decode cX11_init 49 = .ok (.aload_n 1, 1) := by decide +kernel
theorem dX11_init_50 : decode cX11_init 50 = .ok (.aload_n 2, 1) := by decide +kernel
theorem dX11_init_51 : decode cX11_init 51 = .ok (.invokespecial 36, 3) := by decide +kernel
theorem dX11_init_54 : decode cX11_init 54 = .ok (.putfield 37, 3) := by decide +kernel
theorem dX11_init_57 : decode cX11_init 57 = .ok (.aload_n 0, 1) := by decide +kernel
theorem dX11_init_58 : decode cX11_init 58 = .ok (.new 41, 3) := by decide +kernel
theorem dX11_init_61 : decode cX11_init 61 = .ok (.dup, 1) := by decide +kernel
theorem dX11_init_62 : decode cX11_init 62 = .ok (.invokespecial 43, 3) := by decide +kernel
theorem dX11_init_65 : decode cX11_init 65 = .ok (.putfield 44, 3) := by decide +kernel
theorem dX11_init_68 : decode cX11_init 68 = .ok (.return_, 1) := by decide +kernel
theorem dX11_publish_0 : decode cX11_publish 0 = .ok (.iload_n 1, 1) := by decide +kernel
theorem dX11_publish_1 : decode cX11_publish 1 = .ok (.invokestatic 48, 3) := by decide +kernel
theorem dX11_publish_4 : decode cX11_publish 4 = .ok (.ifCond .eq 12, 3) := by decide +kernel
theorem dX11_publish_7 : decode cX11_publish 7 = .ok (.iconst 1, 1) := by decide +kernel
theorem dX11_publish_8 : decode cX11_publish 8 = .ok (.iload 6, 2) := by decide +kernel
theorem dX11_publish_10 : decode cX11_publish 10 = .ok (.invokestatic 52, 3) := by decide +kernel
theorem dX11_publish_13 : decode cX11_publish 13 = .ok (.ifCond .ne 13, 3) := by decide +kernel
theorem dX11_publish_16 : decode cX11_publish 16 = .ok (.new 56, 3) := by decide +kernel
theorem dX11_publish_19 : decode cX11_publish 19 = .ok (.dup, 1) := by decide +kernel
theorem dX11_publish_20 : decode cX11_publish 20 = .ok (.ldc 58, 2) := by decide +kernel
theorem dX11_publish_22 : decode cX11_publish 22 = .ok (.invokespecial 60, 3) := by decide +kernel
theorem dX11_publish_25 : decode cX11_publish 25 = .ok (.athrow, 1) := by decide +kernel
theorem dX11_publish_26 : decode cX11_publish 26 = .ok (.iload_n 2, 1) := by decide +kernel
theorem dX11_publish_27 : decode cX11_publish 27 = .ok (.invokestatic 63, 3) := by decide +kernel
theorem dX11_publish_30 : decode cX11_publish 30 = .ok (.ifCond .eq 26, 3) := by decide +kernel
theorem dX11_publish_33 : decode cX11_publish 33 = .ok (.iload_n 3, 1) := by decide +kernel
theorem dX11_publish_34 : decode cX11_publish 34 = .ok (.invokestatic 63, 3) := by decide +kernel
theorem dX11_publish_37 : decode cX11_publish 37 = .ok (.ifCond .eq 19, 3) := by decide +kernel
theorem dX11_publish_40 : decode cX11_publish 40 = .ok (.iload 4, 2) := by decide +kernel
theorem dX11_publish_42 : decode cX11_publish 42 = .ok (.invokestatic 63, 3) := by decide +kernel
theorem dX11_publish_45 : decode cX11_publish 45 = .ok (.ifCond .eq 11, 3) := by decide +kernel
theorem dX11_publish_48 : decode cX11_publish 48 = .ok (.iload 5, 2) := by decide +kernel
theorem dX11_publish_50 : decode cX11_publish 50 = .ok (.invokestatic 63, 3) := by decide +kernel
theorem dX11_publish_53 : decode cX11_publish 53 = .ok (.ifCond .ne 13, 3) := by decide +kernel
theorem dX11_publish_56 : decode cX11_publish 56 = .ok (.new 66, 3) := by decide +kernel
theorem dX11_publish_59 : decode cX11_publish 59 = .ok (.dup, 1) := by decide +kernel
theorem dX11_publish_60 : decode cX11_publish 60 = .ok (.ldc 68, 2) := by decide +kernel
theorem dX11_publish_62 : decode cX11_publish 62 = .ok (.invokespecial 70, 3) := by decide +kernel
theorem dX11_publish_65 : decode cX11_publish 65 = .ok (.athrow, 1) := by decide +kernel
theorem dX11_publish_66 : decode cX11_publish 66 = .ok (.iload_n 2, 1) := by decide +kernel
theorem dX11_publish_67 : decode cX11_publish 67 = .ok (.iload_n 3, 1) := by decide +kernel
theorem dX11_publish_68 : decode cX11_publish 68 = .ok (.iload 4, 2) := by decide +kernel
theorem dX11_publish_70 : decode cX11_publish 70 = .ok (.iload 5, 2) := by decide +kernel
theorem dX11_publish_72 : decode cX11_publish 72 = .ok (.invokestatic 71, 3) := by decide +kernel
theorem dX11_publish_75 : decode cX11_publish 75 = .ok (.istore 7, 2) := by decide +kernel
theorem dX11_publish_77 : decode cX11_publish 77 = .ok (.aload_n 0, 1) := by decide +kernel
theorem dX11_publish_78 : decode cX11_publish 78 = .ok (.getfield 17, 3) := by decide +kernel
theorem dX11_publish_81 : decode cX11_publish 81 = .ok (.getfield 75, 3) := by decide +kernel
theorem dX11_publish_84 : decode cX11_publish 84 = .ok (.iload_n 1, 1) := by decide +kernel
theorem dX11_publish_85 : decode cX11_publish 85 = .ok (.invokevirtual 79, 3) := by decide +kernel
theorem dX11_publish_88 : decode cX11_publish 88 = .ok (.ifCond .ne 19, 3) := by decide +kernel
theorem dX11_publish_91 : decode cX11_publish 91 = .ok (.aload_n 0, 1) := by decide +kernel
theorem dX11_publish_92 : decode cX11_publish 92 = .ok (.getfield 17, 3) := by decide +kernel
theorem dX11_publish_95 : decode cX11_publish 95 = .ok (.getfield 75, 3) := by decide +kernel
theorem dX11_publish_98 : decode cX11_publish 98 = .ok (.iload_n 1, 1) := by decide +kernel
theorem dX11_publish_99 : decode cX11_publish 99 = .ok (.iload 7, 2) := by decide +kernel
theorem dX11_publish_101 : decode cX11_publish 101 = .ok (.invokevirtual 84, 3) := by decide +kernel
theorem dX11_publish_104 : decode cX11_publish 104 = .ok (.ifCond .eq 13, 3) := by decide +kernel
theorem dX11_publish_107 : decode cX11_publish 107 = .ok (.new 87, 3) := by decide +kernel
theorem dX11_publish_110 : decode cX11_publish 110 = .ok (.dup, 1) := by decide +kernel
theorem dX11_publish_111 : decode cX11_publish 111 = .ok (.ldc 89, 2) := by decide +kernel
theorem dX11_publish_113 : decode cX11_publish 113 = .ok (.invokespecial 91, 3) := by decide +kernel
theorem dX11_publish_116 : decode cX11_publish 116 = .ok (.athrow, 1) := by decide +kernel
theorem dX11_publish_117 : decode cX11_publish 117 = .ok (.bipush 7, 2) := by decide +kernel
theorem dX11_publish_119 : decode cX11_publish 119 = .ok (.iload_n 2, 1) := by decide +kernel
theorem dX11_publish_120 : decode cX11_publish 120 = .ok (.imul, 1) := by decide +kernel
theorem dX11_publish_121 : decode cX11_publish 121 = .ok (.iconst 5, 1) := by decide +kernel
theorem dX11_publish_122 : decode cX11_publish 122 = .ok (.iload_n 3, 1) := by decide +kernel
theorem dX11_publish_123 : decode cX11_publish 123 = .ok (.imul, 1) := by decide +kernel
theorem dX11_publish_124 : decode cX11_publish 124 = .ok (.iadd, 1) := by decide +kernel
theorem dX11_publish_125 : decode cX11_publish 125 = .ok (.iconst 3, 1) := by decide +kernel
theorem dX11_publish_126 : decode cX11_publish 126 = .ok (.iload 4, 2) := by decide +kernel
theorem dX11_publish_128 : decode cX11_publish 128 = .ok (.imul, 1) := by decide +kernel
theorem dX11_publish_129 : decode cX11_publish 129 = .ok (.iadd, 1) := by decide +kernel
theorem dX11_publish_130 : decode cX11_publish 130 = .ok (.iload 5, 2) := by decide +kernel
theorem dX11_publish_132 : decode cX11_publish 132 = .ok (.iadd, 1) := by decide +kernel
theorem dX11_publish_133 : decode cX11_publish 133 = .ok (.iconst 1, 1) := by decide +kernel
theorem dX11_publish_134 : decode cX11_publish 134 = .ok (.iadd, 1) := by decide +kernel
theorem dX11_publish_135 : decode cX11_publish 135 = .ok (.istore 8, 2) := by decide +kernel
theorem dX11_publish_137 : decode cX11_publish 137 = .ok (.aload_n 0, 1) := by decide +kernel
theorem dX11_publish_138 : decode cX11_publish 138 = .ok (.getfield 17, 3) := by decide +kernel
theorem dX11_publish_141 : decode cX11_publish 141 = .ok (.getfield 75, 3) := by decide +kernel
theorem dX11_publish_144 : decode cX11_publish 144 = .ok (.iload_n 1, 1) := by decide +kernel
theorem dX11_publish_145 : decode cX11_publish 145 = .ok (.iload 7, 2) := by decide +kernel
theorem dX11_publish_147 : decode cX11_publish 147 = .ok (.iload 8, 2) := by decide +kernel
theorem dX11_publish_149 : decode cX11_publish 149 = .ok (.iload 6, 2) := by decide +kernel
theorem dX11_publish_151 : decode cX11_publish 151 = .ok (.invokevirtual 92, 3) := by decide +kernel
theorem dX11_publish_154 : decode cX11_publish 154 = .ok (.istore 9, 2) := by decide +kernel
theorem dX11_publish_156 : decode cX11_publish 156 = .ok (.aload_n 0, 1) := by decide +kernel
theorem dX11_publish_157 : decode cX11_publish 157 = .ok (.getfield 17, 3) := by decide +kernel
theorem dX11_publish_160 : decode cX11_publish 160 = .ok (.getfield 95, 3) := by decide +kernel
theorem dX11_publish_163 : decode cX11_publish 163 = .ok (.iload 9, 2) := by decide +kernel
theorem dX11_publish_165 : decode cX11_publish 165 = .ok (.iload 7, 2) := by decide +kernel
theorem dX11_publish_167 : decode cX11_publish 167 = .ok (.invokevirtual 99, 3) := by decide +kernel
theorem dX11_publish_170 : decode cX11_publish 170 = .ok (.iload 9, 2) := by decide +kernel
theorem dX11_publish_172 : decode cX11_publish 172 = .ok (.ireturn, 1) := by decide +kernel
theorem dX11_compare_0 : decode cX11_compare 0 = .ok (.aload_n 0, 1) := by decide +kernel
theorem dX11_compare_1 : decode cX11_compare 1 = .ok (.iload_n 1, 1) := by decide +kernel
theorem dX11_compare_2 : decode cX11_compare 2 = .ok (.invokevirtual 105, 3) := by decide +kernel
theorem dX11_compare_5 : decode cX11_compare 5 = .ok (.ifCond .eq 11, 3) := by decide +kernel
theorem dX11_compare_8 : decode cX11_compare 8 = .ok (.aload_n 0, 1) := by decide +kernel
theorem dX11_compare_9 : decode cX11_compare 9 = .ok (.iload_n 2, 1) := by decide +kernel
theorem dX11_compare_10 : decode cX11_compare 10 = .ok (.invokevirtual 105, 3) := by decide +kernel
theorem dX11_compare_13 : decode cX11_compare 13 = .ok (.ifCond .ne 13, 3) := by decide +kernel
theorem dX11_compare_16 : decode cX11_compare 16 = .ok (.new 56, 3) := by decide +kernel
theorem dX11_compare_19 : decode cX11_compare 19 = .ok (.dup, 1) := by decide +kernel
theorem dX11_compare_20 : decode cX11_compare 20 = .ok (.ldc 108, 2) := by decide +kernel
theorem dX11_compare_22 : decode cX11_compare 22 = .ok (.invokespecial 60, 3) := by decide +kernel
theorem dX11_compare_25 : decode cX11_compare 25 = .ok (.athrow, 1) := by decide +kernel
theorem dX11_compare_26 : decode cX11_compare 26 = .ok (.aload_n 0, 1) := by decide +kernel
theorem dX11_compare_27 : decode cX11_compare 27 = .ok (.getfield 17, 3) := by decide +kernel
theorem dX11_compare_30 : decode cX11_compare 30 = .ok (.getfield 75, 3) := by decide +kernel
theorem dX11_compare_33 : decode cX11_compare 33 = .ok (.getfield 110, 3) := by decide +kernel
theorem dX11_compare_36 : decode cX11_compare 36 = .ok (.iload_n 1, 1) := by decide +kernel
theorem dX11_compare_37 : decode cX11_compare 37 = .ok (.invokevirtual 114, 3) := by decide +kernel
theorem dX11_compare_40 : decode cX11_compare 40 = .ok (.aload_n 0, 1) := by decide +kernel
theorem dX11_compare_41 : decode cX11_compare 41 = .ok (.getfield 17, 3) := by decide +kernel
theorem dX11_compare_44 : decode cX11_compare 44 = .ok (.getfield 75, 3) := by decide +kernel
theorem dX11_compare_47 : decode cX11_compare 47 = .ok (.getfield 110, 3) := by decide +kernel
theorem dX11_compare_50 : decode cX11_compare 50 = .ok (.iload_n 2, 1) := by decide +kernel
theorem dX11_compare_51 : decode cX11_compare 51 = .ok (.invokevirtual 114, 3) := by decide +kernel
theorem dX11_compare_54 : decode cX11_compare 54 = .ok (.if_icmp .eq 13, 3) := by decide +kernel
theorem dX11_compare_57 : decode cX11_compare 57 = .ok (.new 66, 3) := by decide +kernel
theorem dX11_compare_60 : decode cX11_compare 60 = .ok (.dup, 1) := by decide +kernel
theorem dX11_compare_61 : decode cX11_compare 61 = .ok (.ldc 120, 2) := by decide +kernel
theorem dX11_compare_63 : decode cX11_compare 63 = .ok (.invokespecial 70, 3) := by decide +kernel
theorem dX11_compare_66 : decode cX11_compare 66 = .ok (.athrow, 1) := by decide +kernel
theorem dX11_compare_67 : decode cX11_compare 67 = .ok (.aload_n 0, 1) := by decide +kernel
theorem dX11_compare_68 : decode cX11_compare 68 = .ok (.getfield 17, 3) := by decide +kernel
theorem dX11_compare_71 : decode cX11_compare 71 = .ok (.getfield 75, 3) := by decide +kernel
theorem dX11_compare_74 : decode cX11_compare 74 = .ok (.getfield 122, 3) := by decide +kernel
theorem dX11_compare_77 : decode cX11_compare 77 = .ok (.iload_n 1, 1) := by decide +kernel
theorem dX11_compare_78 : decode cX11_compare 78 = .ok (.invokevirtual 114, 3) := by decide +kernel
theorem dX11_compare_81 : decode cX11_compare 81 = .ok (.aload_n 0, 1) := by decide +kernel
theorem dX11_compare_82 : decode cX11_compare 82 = .ok (.getfield 17, 3) := by decide +kernel
theorem dX11_compare_85 : decode cX11_compare 85 = .ok (.getfield 75, 3) := by decide +kernel
theorem dX11_compare_88 : decode cX11_compare 88 = .ok (.getfield 122, 3) := by decide +kernel
theorem dX11_compare_91 : decode cX11_compare 91 = .ok (.iload_n 2, 1) := by decide +kernel
theorem dX11_compare_92 : decode cX11_compare 92 = .ok (.invokevirtual 114, 3) := by decide +kernel
theorem dX11_compare_95 : decode cX11_compare 95 = .ok (.invokestatic 125, 3) := by decide +kernel
theorem dX11_compare_98 : decode cX11_compare 98 = .ok (.ireturn, 1) := by decide +kernel
theorem dX11_yank_0 : decode cX11_yank 0 = .ok (.aload_n 0, 1) := by decide +kernel
theorem dX11_yank_1 : decode cX11_yank 1 = .ok (.iload_n 1, 1) := by decide +kernel
theorem dX11_yank_2 : decode cX11_yank 2 = .ok (.invokevirtual 105, 3) := by decide +kernel
theorem dX11_yank_5 : decode cX11_yank 5 = .ok (.ifCond .ne 13, 3) := by decide +kernel
theorem dX11_yank_8 : decode cX11_yank 8 = .ok (.new 56, 3) := by decide +kernel
theorem dX11_yank_11 : decode cX11_yank 11 = .ok (.dup, 1) := by decide +kernel
theorem dX11_yank_12 : decode cX11_yank 12 = .ok (.ldc 108, 2) := by decide +kernel
theorem dX11_yank_14 : decode cX11_yank 14 = .ok (.invokespecial 60, 3) := by decide +kernel
theorem dX11_yank_17 : decode cX11_yank 17 = .ok (.athrow, 1) := by decide +kernel
theorem dX11_yank_18 : decode cX11_yank 18 = .ok (.aload_n 0, 1) := by decide +kernel
theorem dX11_yank_19 : decode cX11_yank 19 = .ok (.getfield 17, 3) := by decide +kernel
theorem dX11_yank_22 : decode cX11_yank 22 = .ok (.getfield 75, 3) := by decide +kernel
theorem dX11_yank_25 : decode cX11_yank 25 = .ok (.iload_n 1, 1) := by decide +kernel
theorem dX11_yank_26 : decode cX11_yank 26 = .ok (.invokevirtual 131, 3) := by decide +kernel
theorem dX11_yank_29 : decode cX11_yank 29 = .ok (.ireturn, 1) := by decide +kernel
theorem dX11_setPlatforms_0 : decode cX11_setPlatforms 0 = .ok (.aload_n 0, 1) := by decide +kernel
theorem dX11_setPlatforms_1 : decode cX11_setPlatforms 1 = .ok (.iload_n 1, 1) := by decide +kernel
theorem dX11_setPlatforms_2 : decode cX11_setPlatforms 2 = .ok (.invokevirtual 105, 3) := by decide +kernel
theorem dX11_setPlatforms_5 : decode cX11_setPlatforms 5 = .ok (.ifCond .ne 13, 3) := by decide +kernel
theorem dX11_setPlatforms_8 : decode cX11_setPlatforms 8 = .ok (.new 56, 3) := by decide +kernel
theorem dX11_setPlatforms_11 : decode cX11_setPlatforms 11 = .ok (.dup, 1) := by decide +kernel
theorem dX11_setPlatforms_12 : decode cX11_setPlatforms 12 = .ok (.ldc 108, 2) := by decide +kernel
theorem dX11_setPlatforms_14 : decode cX11_setPlatforms 14 = .ok (.invokespecial 60, 3) := by decide +kernel
theorem dX11_setPlatforms_17 : decode cX11_setPlatforms 17 = .ok (.athrow, 1) := by decide +kernel
theorem dX11_setPlatforms_18 : decode cX11_setPlatforms 18 = .ok (.bipush 7, 2) := by decide +kernel
theorem dX11_setPlatforms_20 : decode cX11_setPlatforms 20 = .ok (.iload_n 2, 1) := by decide +kernel
theorem dX11_setPlatforms_21 : decode cX11_setPlatforms 21 = .ok (.invokestatic 52, 3) := by decide +kernel
theorem dX11_setPlatforms_24 : decode cX11_setPlatforms 24 = .ok (.ifCond .ne 13, 3) := by decide +kernel
theorem dX11_setPlatforms_27 : decode cX11_setPlatforms 27 = .ok (.new 66, 3) := by decide +kernel
theorem dX11_setPlatforms_30 : decode cX11_setPlatforms 30 = .ok (.dup, 1) := by decide +kernel
theorem dX11_setPlatforms_31 : decode cX11_setPlatforms 31 = .ok (.ldc 134, 2) := by decide +kernel
theorem dX11_setPlatforms_33 : decode cX11_setPlatforms 33 = .ok (.invokespecial 70, 3) := by decide +kernel
theorem dX11_setPlatforms_36 : decode cX11_setPlatforms 36 = .ok (.athrow, 1) := by decide +kernel
theorem dX11_setPlatforms_37 : decode cX11_setPlatforms 37 = .ok (.aload_n 0, 1) := by decide +kernel
theorem dX11_setPlatforms_38 : decode cX11_setPlatforms 38 = .ok (.getfield 17, 3) := by decide +kernel
theorem dX11_setPlatforms_41 : decode cX11_setPlatforms 41 = .ok (.getfield 75, 3) := by decide +kernel
theorem dX11_setPlatforms_44 : decode cX11_setPlatforms 44 = .ok (.getfield 136, 3) := by decide +kernel
theorem dX11_setPlatforms_47 : decode cX11_setPlatforms 47 = .ok (.iload_n 1, 1) := by decide +kernel
theorem dX11_setPlatforms_48 : decode cX11_setPlatforms 48 = .ok (.iload_n 2, 1) := by decide +kernel
theorem dX11_setPlatforms_49 : decode cX11_setPlatforms 49 = .ok (.invokevirtual 139, 3) := by decide +kernel
theorem dX11_setPlatforms_52 : decode cX11_setPlatforms 52 = .ok (.ireturn, 1) := by decide +kernel
theorem dX11_bring_0 : decode cX11_bring 0 = .ok (.aload_n 0, 1) := by decide +kernel
theorem dX11_bring_1 : decode cX11_bring 1 = .ok (.iload_n 1, 1) := by decide +kernel
theorem dX11_bring_2 : decode cX11_bring 2 = .ok (.invokevirtual 105, 3) := by decide +kernel
theorem dX11_bring_5 : decode cX11_bring 5 = .ok (.ifCond .eq 19, 3) := by decide +kernel
theorem dX11_bring_8 : decode cX11_bring 8 = .ok (.iconst 2, 1) := by decide +kernel
theorem dX11_bring_9 : decode cX11_bring 9 = .ok (.iload_n 2, 1) := by decide +kernel
theorem dX11_bring_10 : decode cX11_bring 10 = .ok (.invokestatic 52, 3) := by decide +kernel
theorem dX11_bring_13 : decode cX11_bring 13 = .ok (.ifCond .eq 11, 3) := by decide +kernel
theorem dX11_bring_16 : decode cX11_bring 16 = .ok (.iconst 2, 1) := by decide +kernel
theorem dX11_bring_17 : decode cX11_bring 17 = .ok (.iload_n 3, 1) := by decide +kernel
theorem dX11_bring_18 : decode cX11_bring 18 = .ok (.invokestatic 52, 3) := by decide +kernel
theorem dX11_bring_21 : decode cX11_bring 21 = .ok (.ifCond .ne 13, 3) := by decide +kernel
theorem dX11_bring_24 : decode cX11_bring 24 = .ok (.new 56, 3) := by decide +kernel
theorem dX11_bring_27 : decode cX11_bring 27 = .ok (.dup, 1) := by decide +kernel
theorem dX11_bring_28 : decode cX11_bring 28 = .ok (.ldc 142, 2) := by decide +kernel
theorem dX11_bring_30 : decode cX11_bring 30 = .ok (.invokespecial 60, 3) := by decide +kernel
theorem dX11_bring_33 : decode cX11_bring 33 = .ok (.athrow, 1) := by decide +kernel
theorem dX11_bring_34 : decode cX11_bring 34 = .ok (.aload_n 0, 1) := by decide +kernel
theorem dX11_bring_35 : decode cX11_bring 35 = .ok (.getfield 17, 3) := by decide +kernel
theorem dX11_bring_38 : decode cX11_bring 38 = .ok (.getfield 75, 3) := by decide +kernel
theorem dX11_bring_41 : decode cX11_bring 41 = .ok (.getfield 144, 3) := by decide +kernel
theorem dX11_bring_44 : decode cX11_bring 44 = .ok (.iload_n 1, 1) := by decide +kernel
theorem dX11_bring_45 : decode cX11_bring 45 = .ok (.iconst 3, 1) := by decide +kernel
theorem dX11_bring_46 : decode cX11_bring 46 = .ok (.imul, 1) := by decide +kernel
theorem dX11_bring_47 : decode cX11_bring 47 = .ok (.iload_n 2, 1) := by decide +kernel
theorem dX11_bring_48 : decode cX11_bring 48 = .ok (.iadd, 1) := by decide +kernel
theorem dX11_bring_49 : decode cX11_bring 49 = .ok (.iconst 1, 1) := by decide +kernel
theorem dX11_bring_50 : decode cX11_bring 50 = .ok (.iload_n 3, 1) := by decide +kernel
theorem dX11_bring_51 : decode cX11_bring 51 = .ok (.ishl, 1) := by decide +kernel
theorem dX11_bring_52 : decode cX11_bring 52 = .ok (.invokevirtual 147, 3) := by decide +kernel
theorem dX11_bring_55 : decode cX11_bring 55 = .ok (.ireturn, 1) := by decide +kernel
theorem dX11_range_0 : decode cX11_range 0 = .ok (.bipush 7, 2) := by decide +kernel
theorem dX11_range_2 : decode cX11_range 2 = .ok (.iload_n 1, 1) := by decide +kernel
theorem dX11_range_3 : decode cX11_range 3 = .ok (.invokestatic 52, 3) := by decide +kernel
theorem dX11_range_6 : decode cX11_range 6 = .ok (.ifCond .ne 13, 3) := by decide +kernel
theorem dX11_range_9 : decode cX11_range 9 = .ok (.new 56, 3) := by decide +kernel
theorem dX11_range_12 : decode cX11_range 12 = .ok (.dup, 1) := by decide +kernel
theorem dX11_range_13 : decode cX11_range 13 = .ok (.ldc 150, 2) := by decide +kernel
theorem dX11_range_15 : decode cX11_range 15 = .ok (.invokespecial 60, 3) := by decide +kernel
theorem dX11_range_18 : decode cX11_range 18 = .ok (.athrow, 1) := by decide +kernel
theorem dX11_range_19 : decode cX11_range 19 = .ok (.iload_n 1, 1) := by decide +kernel
theorem dX11_range_20 : decode cX11_range 20 = .ok (.iconst 3, 1) := by decide +kernel
theorem dX11_range_21 : decode cX11_range 21 = .ok (.if_icmp .ne 7, 3) := by decide +kernel
theorem dX11_range_24 : decode cX11_range 24 = .ok (.iconst 0, 1) := by decide +kernel
theorem dX11_range_25 : decode cX11_range 25 = .ok (.goto 5, 3) := by decide +kernel
theorem dX11_range_28 : decode cX11_range 28 = .ok (.bipush 9, 2) := by decide +kernel
theorem dX11_range_30 : decode cX11_range 30 = .ok (.iload_n 2, 1) := by decide +kernel
theorem dX11_range_31 : decode cX11_range 31 = .ok (.invokestatic 52, 3) := by decide +kernel
theorem dX11_range_34 : decode cX11_range 34 = .ok (.ifCond .eq 69, 3) := by decide +kernel
theorem dX11_range_37 : decode cX11_range 37 = .ok (.iload_n 1, 1) := by decide +kernel
theorem dX11_range_38 : decode cX11_range 38 = .ok (.iconst 3, 1) := by decide +kernel
theorem dX11_range_39 : decode cX11_range 39 = .ok (.if_icmp .eq 9, 3) := by decide +kernel
theorem dX11_range_42 : decode cX11_range 42 = .ok (.iload_n 1, 1) := by decide +kernel
theorem dX11_range_43 : decode cX11_range 43 = .ok (.bipush 6, 2) := by decide +kernel
theorem dX11_range_45 : decode cX11_range 45 = .ok (.if_icmp .ne 7, 3) := by decide +kernel
theorem dX11_range_48 : decode cX11_range 48 = .ok (.iconst 0, 1) := by decide +kernel
theorem dX11_range_49 : decode cX11_range 49 = .ok (.goto 5, 3) := by decide +kernel
theorem dX11_range_52 : decode cX11_range 52 = .ok (.bipush 9, 2) := by decide +kernel
theorem dX11_range_54 : decode cX11_range 54 = .ok (.iload_n 3, 1) := by decide +kernel
theorem dX11_range_55 : decode cX11_range 55 = .ok (.invokestatic 52, 3) := by decide +kernel
theorem dX11_range_58 : decode cX11_range 58 = .ok (.ifCond .eq 45, 3) := by decide +kernel
theorem dX11_range_61 : decode cX11_range 61 = .ok (.iload_n 1, 1) := by decide +kernel
theorem dX11_range_62 : decode cX11_range 62 = .ok (.invokestatic 152, 3) := by decide +kernel
theorem dX11_range_65 : decode cX11_range 65 = .ok (.ifCond .eq 8, 3) := by decide +kernel
theorem dX11_range_68 : decode cX11_range 68 = .ok (.bipush 9, 2) := by decide +kernel
theorem dX11_range_70 : decode cX11_range 70 = .ok (.goto 4, 3) := by decide +kernel
theorem dX11_range_73 : decode cX11_range 73 = .ok (.iconst 0, 1) := by decide +kernel
theorem dX11_range_74 : decode cX11_range 74 = .ok (.iload 4, 2) := by decide +kernel
theorem dX11_range_76 : decode cX11_range 76 = .ok (.invokestatic 52, 3) := by decide +kernel
theorem dX11_range_79 : decode cX11_range 79 = .ok (.ifCond .eq 24, 3) := by decide +kernel
theorem dX11_range_82 : decode cX11_range 82 = .ok (.iload_n 1, 1) := by decide +kernel
theorem dX11_range_83 : decode cX11_range 83 = .ok (.invokestatic 152, 3) := by decide +kernel
theorem dX11_range_86 : decode cX11_range 86 = .ok (.ifCond .eq 8, 3) := by decide +kernel
theorem dX11_range_89 : decode cX11_range 89 = .ok (.bipush 9, 2) := by decide +kernel
theorem dX11_range_91 : decode cX11_range 91 = .ok (.goto 4, 3) := by decide +kernel
theorem dX11_range_94 : decode cX11_range 94 = .ok (.iconst 0, 1) := by decide +kernel
theorem dX11_range_95 : decode cX11_range 95 = .ok (.iload 5, 2) := by decide +kernel
theorem dX11_range_97 : decode cX11_range 97 = .ok (.invokestatic 52, 3) := by decide +kernel
theorem dX11_range_100 : decode cX11_range 100 = .ok (.ifCond .ne 13, 3) := by decide +kernel
theorem dX11_range_103 : decode cX11_range 103 = .ok (.new 66, 3) := by decide +kernel
theorem dX11_range_106 : decode cX11_range 106 = .ok (.dup, 1) := by decide +kernel
theorem dX11_range_107 : decode cX11_range 107 = .ok (.ldc 155, 2) := by decide +kernel
theorem dX11_range_109 : decode cX11_range 109 = .ok (.invokespecial 70, 3) := by decide +kernel
theorem dX11_range_112 : decode cX11_range 112 = .ok (.athrow, 1) := by decide +kernel
theorem dX11_range_113 : decode cX11_range 113 = .ok (.aload_n 0, 1) := by decide +kernel
theorem dX11_range_114 : decode cX11_range 114 = .ok (.getfield 17, 3) := by decide +kernel
theorem dX11_range_117 : decode cX11_range 117 = .ok (.getfield 95, 3) := by decide +kernel
theorem dX11_range_120 : decode cX11_range 120 = .ok (.invokevirtual 157, 3) := by decide +kernel
theorem dX11_range_123 : decode cX11_range 123 = .ok (.ifCond .eq 13, 3) := by decide +kernel
theorem dX11_range_126 : decode cX11_range 126 = .ok (.new 87, 3) := by decide +kernel
theorem dX11_range_129 : decode cX11_range 129 = .ok (.dup, 1) := by decide +kernel
theorem dX11_range_130 : decode cX11_range 130 = .ok (.ldc 160, 2) := by decide +kernel
theorem dX11_range_132 : decode cX11_range 132 = .ok (.invokespecial 91, 3) := by decide +kernel
theorem dX11_range_135 : decode cX11_range 135 = .ok (.athrow, 1) := by decide +kernel
theorem dX11_range_136 : decode cX11_range 136 = .ok (.iload_n 2, 1) := by decide +kernel
theorem dX11_range_137 : decode cX11_range 137 = .ok (.iload_n 3, 1) := by decide +kernel
theorem dX11_range_138 : decode cX11_range 138 = .ok (.iload 4, 2) := by decide +kernel
theorem dX11_range_140 : decode cX11_range 140 = .ok (.iload 5, 2) := by decide +kernel
theorem dX11_range_142 : decode cX11_range 142 = .ok (.invokestatic 71, 3) := by decide +kernel
theorem dX11_range_145 : decode cX11_range 145 = .ok (.istore 6, 2) := by decide +kernel
theorem dX11_range_147 : decode cX11_range 147 = .ok (.iload_n 1, 1) := by decide +kernel
theorem dX11_range_148 : decode cX11_range 148 = .ok (.iconst 2, 1) := by decide +kernel
theorem dX11_range_149 : decode cX11_range 149 = .ok (.if_icmp .eq 8, 3) := by decide +kernel
theorem dX11_range_152 : decode cX11_range 152 = .ok (.iload_n 1, 1) := by decide +kernel
theorem dX11_range_153 : decode cX11_range 153 = .ok (.iconst 3, 1) := by decide +kernel
theorem dX11_range_154 : decode cX11_range 154 = .ok (.if_icmp .ne 7, 3) := by decide +kernel
theorem dX11_range_157 : decode cX11_range 157 = .ok (.iconst 0, 1) := by decide +kernel
theorem dX11_range_158 : decode cX11_range 158 = .ok (.goto 5, 3) := by decide +kernel
theorem dX11_range_161 : decode cX11_range 161 = .ok (.iload 6, 2) := by decide +kernel
theorem dX11_range_163 : decode cX11_range 163 = .ok (.istore 7, 2) := by decide +kernel
theorem dX11_range_165 : decode cX11_range 165 = .ok (.iload_n 1, 1) := by decide +kernel
theorem dX11_range_166 : decode cX11_range 166 = .ok (.iload_n 2, 1) := by decide +kernel
theorem dX11_range_167 : decode cX11_range 167 = .ok (.iload_n 3, 1) := by decide +kernel
theorem dX11_range_168 : decode cX11_range 168 = .ok (.iload 4, 2) := by decide +kernel
theorem dX11_range_170 : decode cX11_range 170 = .ok (.iload 6, 2) := by decide +kernel
theorem dX11_range_172 : decode cX11_range 172 = .ok (.invokestatic 162, 3) := by decide +kernel
theorem dX11_range_175 : decode cX11_range 175 = .ok (.istore 8, 2) := by decide +kernel
theorem dX11_range_177 : decode cX11_range 177 = .ok (.aload_n 0, 1) := by decide +kernel
theorem dX11_range_178 : decode cX11_range 178 = .ok (.getfield 17, 3) := by decide +kernel
theorem dX11_range_181 : decode cX11_range 181 = .ok (.getfield 95, 3) := by decide +kernel
theorem dX11_range_184 : decode cX11_range 184 = .ok (.iload 7, 2) := by decide +kernel
theorem dX11_range_186 : decode cX11_range 186 = .ok (.iload 8, 2) := by decide +kernel
theorem dX11_range_188 : decode cX11_range 188 = .ok (.iload 5, 2) := by decide +kernel
theorem dX11_range_190 : decode cX11_range 190 = .ok (.ifCond .ne 7, 3) := by decide +kernel
theorem dX11_range_193 : decode cX11_range 193 = .ok (.iconst (-1), 1) := by decide +kernel
theorem dX11_range_194 : decode cX11_range 194 = .ok (.goto 8, 3) := by decide +kernel
theorem dX11_range_197 : decode cX11_range 197 = .ok (.iload 6, 2) := by decide +kernel
theorem dX11_range_199 : decode cX11_range 199 = .ok (.invokestatic 166, 3) := by decide +kernel
theorem dX11_range_202 : decode cX11_range 202 = .ok (.aload_n 0, 1) := by decide +kernel
theorem dX11_range_203 : decode cX11_range 203 = .ok (.getfield 17, 3) := by decide +kernel
theorem dX11_range_206 : decode cX11_range 206 = .ok (.getfield 75, 3) := by decide +kernel
theorem dX11_range_209 : decode cX11_range 209 = .ok (.invokevirtual 169, 3) := by decide +kernel
theorem dX11_range_212 : decode cX11_range 212 = .ok (.ireturn, 1) := by decide +kernel
theorem dX11_join_0 : decode cX11_join 0 = .ok (.iload_n 1, 1) := by decide +kernel
theorem dX11_join_1 : decode cX11_join 1 = .ok (.bipush 8, 2) := by decide +kernel
theorem dX11_join_3 : decode cX11_join 3 = .ok (.if_icmp .eq 9, 3) := by decide +kernel
theorem dX11_join_6 : decode cX11_join 6 = .ok (.iload_n 1, 1) := by decide +kernel
theorem dX11_join_7 : decode cX11_join 7 = .ok (.bipush 9, 2) := by decide +kernel
theorem dX11_join_9 : decode cX11_join 9 = .ok (.if_icmp .ne 19, 3) := by decide +kernel
theorem dX11_join_12 : decode cX11_join 12 = .ok (.aload_n 0, 1) := by decide +kernel
theorem dX11_join_13 : decode cX11_join 13 = .ok (.iload_n 2, 1) := by decide +kernel
theorem dX11_join_14 : decode cX11_join 14 = .ok (.invokevirtual 172, 3) := by decide +kernel
theorem dX11_join_17 : decode cX11_join 17 = .ok (.ifCond .eq 11, 3) := by decide +kernel
theorem dX11_join_20 : decode cX11_join 20 = .ok (.aload_n 0, 1) := by decide +kernel
theorem dX11_join_21 : decode cX11_join 21 = .ok (.iload_n 3, 1) := by decide +kernel
theorem dX11_join_22 : decode cX11_join 22 = .ok (.invokevirtual 172, 3) := by decide +kernel
theorem dX11_join_25 : decode cX11_join 25 = .ok (.ifCond .ne 13, 3) := by decide +kernel
theorem dX11_join_28 : decode cX11_join 28 = .ok (.new 56, 3) := by decide +kernel
theorem dX11_join_31 : decode cX11_join 31 = .ok (.dup, 1) := by decide +kernel
theorem dX11_join_32 : decode cX11_join 32 = .ok (.ldc 175, 2) := by decide +kernel
theorem dX11_join_34 : decode cX11_join 34 = .ok (.invokespecial 60, 3) := by decide +kernel
theorem dX11_join_37 : decode cX11_join 37 = .ok (.athrow, 1) := by decide +kernel
theorem dX11_join_38 : decode cX11_join 38 = .ok (.aload_n 0, 1) := by decide +kernel
theorem dX11_join_39 : decode cX11_join 39 = .ok (.getfield 17, 3) := by decide +kernel
theorem dX11_join_42 : decode cX11_join 42 = .ok (.getfield 95, 3) := by decide +kernel
theorem dX11_join_45 : decode cX11_join 45 = .ok (.invokevirtual 157, 3) := by decide +kernel
theorem dX11_join_48 : decode cX11_join 48 = .ok (.ifCond .eq 13, 3) := by decide +kernel
theorem dX11_join_51 : decode cX11_join 51 = .ok (.new 87, 3) := by decide +kernel
theorem dX11_join_54 : decode cX11_join 54 = .ok (.dup, 1) := by decide +kernel
theorem dX11_join_55 : decode cX11_join 55 = .ok (.ldc 160, 2) := by decide +kernel
theorem dX11_join_57 : decode cX11_join 57 = .ok (.invokespecial 91, 3) := by decide +kernel
theorem dX11_join_60 : decode cX11_join 60 = .ok (.athrow, 1) := by decide +kernel
theorem dX11_join_61 : decode cX11_join 61 = .ok (.aload_n 0, 1) := by decide +kernel
theorem dX11_join_62 : decode cX11_join 62 = .ok (.getfield 17, 3) := by decide +kernel
theorem dX11_join_65 : decode cX11_join 65 = .ok (.getfield 95, 3) := by decide +kernel
theorem dX11_join_68 : decode cX11_join 68 = .ok (.iload_n 1, 1) := by decide +kernel
theorem dX11_join_69 : decode cX11_join 69 = .ok (.iload_n 2, 1) := by decide +kernel
theorem dX11_join_70 : decode cX11_join 70 = .ok (.iload_n 3, 1) := by decide +kernel
theorem dX11_join_71 : decode cX11_join 71 = .ok (.invokevirtual 177, 3) := by decide +kernel
theorem dX11_join_74 : decode cX11_join 74 = .ok (.ireturn, 1) := by decide +kernel
theorem dX11_has_0 : decode cX11_has 0 = .ok (.aload_n 0, 1) := by decide +kernel
theorem dX11_has_1 : decode cX11_has 1 = .ok (.iload_n 1, 1) := by decide +kernel
theorem dX11_has_2 : decode cX11_has 2 = .ok (.invokevirtual 172, 3) := by decide +kernel
theorem dX11_has_5 : decode cX11_has 5 = .ok (.ifCond .eq 11, 3) := by decide +kernel
theorem dX11_has_8 : decode cX11_has 8 = .ok (.aload_n 0, 1) := by decide +kernel
theorem dX11_has_9 : decode cX11_has 9 = .ok (.iload_n 2, 1) := by decide +kernel
theorem dX11_has_10 : decode cX11_has 10 = .ok (.invokevirtual 105, 3) := by decide +kernel
theorem dX11_has_13 : decode cX11_has 13 = .ok (.ifCond .ne 13, 3) := by decide +kernel
theorem dX11_has_16 : decode cX11_has 16 = .ok (.new 56, 3) := by decide +kernel
theorem dX11_has_19 : decode cX11_has 19 = .ok (.dup, 1) := by decide +kernel
theorem dX11_has_20 : decode cX11_has 20 = .ok (.ldc 181, 2) := by decide +kernel
theorem dX11_has_22 : decode cX11_has 22 = .ok (.invokespecial 60, 3) := by decide +kernel
theorem dX11_has_25 : decode cX11_has 25 = .ok (.athrow, 1) := by decide +kernel
theorem dX11_has_26 : decode cX11_has 26 = .ok (.aload_n 0, 1) := by decide +kernel
theorem dX11_has_27 : decode cX11_has 27 = .ok (.getfield 17, 3) := by decide +kernel
theorem dX11_has_30 : decode cX11_has 30 = .ok (.getfield 95, 3) := by decide +kernel
theorem dX11_has_33 : decode cX11_has 33 = .ok (.iload_n 1, 1) := by decide +kernel
theorem dX11_has_34 : decode cX11_has 34 = .ok (.iload_n 2, 1) := by decide +kernel
theorem dX11_has_35 : decode cX11_has 35 = .ok (.invokevirtual 183, 3) := by decide +kernel
theorem dX11_has_38 : decode cX11_has 38 = .ok (.ireturn, 1) := by decide +kernel
theorem dX11_need_0 : decode cX11_need 0 = .ok (.aload_n 0, 1) := by decide +kernel
theorem dX11_need_1 : decode cX11_need 1 = .ok (.iload_n 1, 1) := by decide +kernel
theorem dX11_need_2 : decode cX11_need 2 = .ok (.invokevirtual 105, 3) := by decide +kernel
theorem dX11_need_5 : decode cX11_need 5 = .ok (.ifCond .eq 42, 3) := by decide +kernel
theorem dX11_need_8 : decode cX11_need 8 = .ok (.iload_n 2, 1) := by decide +kernel
theorem dX11_need_9 : decode cX11_need 9 = .ok (.invokestatic 48, 3) := by decide +kernel
theorem dX11_need_12 : decode cX11_need 12 = .ok (.ifCond .eq 35, 3) := by decide +kernel
theorem dX11_need_15 : decode cX11_need 15 = .ok (.aload_n 0, 1) := by decide +kernel
theorem dX11_need_16 : decode cX11_need 16 = .ok (.iload_n 3, 1) := by decide +kernel
theorem dX11_need_17 : decode cX11_need 17 = .ok (.invokevirtual 172, 3) := by decide +kernel
theorem dX11_need_20 : decode cX11_need 20 = .ok (.ifCond .eq 27, 3) := by decide +kernel
theorem dX11_need_23 : decode cX11_need 23 = .ok (.iconst 2, 1) := by decide +kernel
theorem dX11_need_24 : decode cX11_need 24 = .ok (.iload 4, 2) := by decide +kernel
theorem dX11_need_26 : decode cX11_need 26 = .ok (.invokestatic 52, 3) := by decide +kernel
theorem dX11_need_29 : decode cX11_need 29 = .ok (.ifCond .eq 18, 3) := by decide +kernel
theorem dX11_need_32 : decode cX11_need 32 = .ok (.iload 5, 2) := by decide +kernel
theorem dX11_need_34 : decode cX11_need 34 = .ok (.iconst (-1), 1) := by decide +kernel
theorem dX11_need_35 : decode cX11_need 35 = .ok (.if_icmp .eq 22, 3) := by decide +kernel
theorem dX11_need_38 : decode cX11_need 38 = .ok (.iconst 2, 1) := by decide +kernel
theorem dX11_need_39 : decode cX11_need 39 = .ok (.iload 5, 2) := by decide +kernel
theorem dX11_need_41 : decode cX11_need 41 = .ok (.invokestatic 52, 3) := by decide +kernel
theorem dX11_need_44 : decode cX11_need 44 = .ok (.ifCond .ne 13, 3) := by decide +kernel
theorem dX11_need_47 : decode cX11_need 47 = .ok (.new 56, 3) := by decide +kernel
theorem dX11_need_50 : decode cX11_need 50 = .ok (.dup, 1) := by decide +kernel
theorem dX11_need_51 : decode cX11_need 51 = .ok (.ldc 186, 2) := by decide +kernel
theorem dX11_need_53 : decode cX11_need 53 = .ok (.invokespecial 60, 3) := by decide +kernel
theorem dX11_need_56 : decode cX11_need 56 = .ok (.athrow, 1) := by decide +kernel
theorem dX11_need_57 : decode cX11_need 57 = .ok (.bipush 7, 2) := by decide +kernel
theorem dX11_need_59 : decode cX11_need 59 = .ok (.iload 6, 2) := by decide +kernel
theorem dX11_need_61 : decode cX11_need 61 = .ok (.invokestatic 52, 3) := by decide +kernel
theorem dX11_need_64 : decode cX11_need 64 = .ok (.ifCond .eq 13, 3) := by decide +kernel
theorem dX11_need_67 : decode cX11_need 67 = .ok (.bipush 7, 2) := by decide +kernel
theorem dX11_need_69 : decode cX11_need 69 = .ok (.iload 7, 2) := by decide +kernel
theorem dX11_need_71 : decode cX11_need 71 = .ok (.invokestatic 52, 3) := by decide +kernel
theorem dX11_need_74 : decode cX11_need 74 = .ok (.ifCond .ne 13, 3) := by decide +kernel
theorem dX11_need_77 : decode cX11_need 77 = .ok (.new 66, 3) := by decide +kernel
theorem dX11_need_80 : decode cX11_need 80 = .ok (.dup, 1) := by decide +kernel
theorem dX11_need_81 : decode cX11_need 81 = .ok (.ldc 188, 2) := by decide +kernel
theorem dX11_need_83 : decode cX11_need 83 = .ok (.invokespecial 70, 3) := by decide +kernel
theorem dX11_need_86 : decode cX11_need 86 = .ok (.athrow, 1) := by decide +kernel
theorem dX11_need_87 : decode cX11_need 87 = .ok (.aload_n 0, 1) := by decide +kernel
theorem dX11_need_88 : decode cX11_need 88 = .ok (.getfield 17, 3) := by decide +kernel
theorem dX11_need_91 : decode cX11_need 91 = .ok (.getfield 190, 3) := by decide +kernel
theorem dX11_need_94 : decode cX11_need 94 = .ok (.iload_n 1, 1) := by decide +kernel
theorem dX11_need_95 : decode cX11_need 95 = .ok (.invokevirtual 194, 3) := by decide +kernel
theorem dX11_need_98 : decode cX11_need 98 = .ok (.ifCond .eq 13, 3) := by decide +kernel
theorem dX11_need_101 : decode cX11_need 101 = .ok (.new 87, 3) := by decide +kernel
theorem dX11_need_104 : decode cX11_need 104 = .ok (.dup, 1) := by decide +kernel
theorem dX11_need_105 : decode cX11_need 105 = .ok (.ldc 197, 2) := by decide +kernel
theorem dX11_need_107 : decode cX11_need 107 = .ok (.invokespecial 91, 3) := by decide +kernel
theorem dX11_need_110 : decode cX11_need 110 = .ok (.athrow, 1) := by decide +kernel
theorem dX11_need_111 : decode cX11_need 111 = .ok (.aload_n 0, 1) := by decide +kernel
theorem dX11_need_112 : decode cX11_need 112 = .ok (.getfield 17, 3) := by decide +kernel
theorem dX11_need_115 : decode cX11_need 115 = .ok (.getfield 190, 3) := by decide +kernel
theorem dX11_need_118 : decode cX11_need 118 = .ok (.iload_n 1, 1) := by decide +kernel
theorem dX11_need_119 : decode cX11_need 119 = .ok (.iload_n 2, 1) := by decide +kernel
theorem dX11_need_120 : decode cX11_need 120 = .ok (.iload_n 3, 1) := by decide +kernel
theorem dX11_need_121 : decode cX11_need 121 = .ok (.iload 4, 2) := by decide +kernel
theorem dX11_need_123 : decode cX11_need 123 = .ok (.iload 5, 2) := by decide +kernel
theorem dX11_need_125 : decode cX11_need 125 = .ok (.iload 6, 2) := by decide +kernel
theorem dX11_need_127 : decode cX11_need 127 = .ok (.iload 7, 2) := by decide +kernel
theorem dX11_need_129 : decode cX11_need 129 = .ok (.invokevirtual 199, 3) := by decide +kernel
theorem dX11_need_132 : decode cX11_need 132 = .ok (.ireturn, 1) := by decide +kernel
theorem dX11_demand_0 : decode cX11_demand 0 = .ok (.iconst 2, 1) := by decide +kernel
theorem dX11_demand_1 : decode cX11_demand 1 = .ok (.iload_n 1, 1) := by decide +kernel
theorem dX11_demand_2 : decode cX11_demand 2 = .ok (.invokestatic 52, 3) := by decide +kernel
theorem dX11_demand_5 : decode cX11_demand 5 = .ok (.ifCond .eq 18, 3) := by decide +kernel
theorem dX11_demand_8 : decode cX11_demand 8 = .ok (.iload_n 2, 1) := by decide +kernel
theorem dX11_demand_9 : decode cX11_demand 9 = .ok (.invokestatic 48, 3) := by decide +kernel
theorem dX11_demand_12 : decode cX11_demand 12 = .ok (.ifCond .eq 11, 3) := by decide +kernel
theorem dX11_demand_15 : decode cX11_demand 15 = .ok (.aload_n 0, 1) := by decide +kernel
theorem dX11_demand_16 : decode cX11_demand 16 = .ok (.iload_n 3, 1) := by decide +kernel
theorem dX11_demand_17 : decode cX11_demand 17 = .ok (.invokevirtual 172, 3) := by decide +kernel
theorem dX11_demand_20 : decode cX11_demand 20 = .ok (.ifCond .ne 13, 3) := by decide +kernel
theorem dX11_demand_23 : decode cX11_demand 23 = .ok (.new 56, 3) := by decide +kernel
theorem dX11_demand_26 : decode cX11_demand 26 = .ok (.dup, 1) := by decide +kernel
theorem dX11_demand_27 : decode cX11_demand 27 = .ok (.ldc 202, 2) := by decide +kernel
theorem dX11_demand_29 : decode cX11_demand 29 = .ok (.invokespecial 60, 3) := by decide +kernel
theorem dX11_demand_32 : decode cX11_demand 32 = .ok (.athrow, 1) := by decide +kernel
theorem dX11_demand_33 : decode cX11_demand 33 = .ok (.bipush 7, 2) := by decide +kernel
theorem dX11_demand_35 : decode cX11_demand 35 = .ok (.iload 4, 2) := by decide +kernel
theorem dX11_demand_37 : decode cX11_demand 37 = .ok (.invokestatic 52, 3) := by decide +kernel
theorem dX11_demand_40 : decode cX11_demand 40 = .ok (.ifCond .ne 13, 3) := by decide +kernel
theorem dX11_demand_43 : decode cX11_demand 43 = .ok (.new 66, 3) := by decide +kernel
theorem dX11_demand_46 : decode cX11_demand 46 = .ok (.dup, 1) := by decide +kernel
theorem dX11_demand_47 : decode cX11_demand 47 = .ok (.ldc 204, 2) := by decide +kernel
theorem dX11_demand_49 : decode cX11_demand 49 = .ok (.invokespecial 70, 3) := by decide +kernel
theorem dX11_demand_52 : decode cX11_demand 52 = .ok (.athrow, 1) := by decide +kernel
theorem dX11_demand_53 : decode cX11_demand 53 = .ok (.aload_n 0, 1) := by decide +kernel
theorem dX11_demand_54 : decode cX11_demand 54 = .ok (.getfield 17, 3) := by decide +kernel
theorem dX11_demand_57 : decode cX11_demand 57 = .ok (.getfield 206, 3) := by decide +kernel
theorem dX11_demand_60 : decode cX11_demand 60 = .ok (.invokevirtual 210, 3) := by decide +kernel
theorem dX11_demand_63 : decode cX11_demand 63 = .ok (.ifCond .eq 13, 3) := by decide +kernel
theorem dX11_demand_66 : decode cX11_demand 66 = .ok (.new 87, 3) := by decide +kernel
theorem dX11_demand_69 : decode cX11_demand 69 = .ok (.dup, 1) := by decide +kernel
theorem dX11_demand_70 : decode cX11_demand 70 = .ok (.ldc 213, 2) := by decide +kernel
theorem dX11_demand_72 : decode cX11_demand 72 = .ok (.invokespecial 91, 3) := by decide +kernel
theorem dX11_demand_75 : decode cX11_demand 75 = .ok (.athrow, 1) := by decide +kernel
theorem dX11_demand_76 : decode cX11_demand 76 = .ok (.aload_n 0, 1) := by decide +kernel
theorem dX11_demand_77 : decode cX11_demand 77 = .ok (.getfield 17, 3) := by decide +kernel
theorem dX11_demand_80 : decode cX11_demand 80 = .ok (.getfield 206, 3) := by decide +kernel
theorem dX11_demand_83 : decode cX11_demand 83 = .ok (.iload_n 1, 1) := by decide +kernel
theorem dX11_demand_84 : decode cX11_demand 84 = .ok (.iload_n 2, 1) := by decide +kernel
theorem dX11_demand_85 : decode cX11_demand 85 = .ok (.iload_n 3, 1) := by decide +kernel
theorem dX11_demand_86 : decode cX11_demand 86 = .ok (.iload 4, 2) := by decide +kernel
theorem dX11_demand_88 : decode cX11_demand 88 = .ok (.invokevirtual 215, 3) := by decide +kernel
theorem dX11_demand_91 : decode cX11_demand 91 = .ok (.ireturn, 1) := by decide +kernel
theorem dX11_advise_0 : decode cX11_advise 0 = .ok (.iload_n 1, 1) := by decide +kernel
theorem dX11_advise_1 : decode cX11_advise 1 = .ok (.invokestatic 48, 3) := by decide +kernel
theorem dX11_advise_4 : decode cX11_advise 4 = .ok (.ifCond .eq 11, 3) := by decide +kernel
theorem dX11_advise_7 : decode cX11_advise 7 = .ok (.aload_n 0, 1) := by decide +kernel
theorem dX11_advise_8 : decode cX11_advise 8 = .ok (.iload_n 2, 1) := by decide +kernel
theorem dX11_advise_9 : decode cX11_advise 9 = .ok (.invokevirtual 172, 3) := by decide +kernel
theorem dX11_advise_12 : decode cX11_advise 12 = .ok (.ifCond .ne 13, 3) := by decide +kernel
theorem dX11_advise_15 : decode cX11_advise 15 = .ok (.new 56, 3) := by decide +kernel
theorem dX11_advise_18 : decode cX11_advise 18 = .ok (.dup, 1) := by decide +kernel
theorem dX11_advise_19 : decode cX11_advise 19 = .ok (.ldc 216, 2) := by decide +kernel
theorem dX11_advise_21 : decode cX11_advise 21 = .ok (.invokespecial 60, 3) := by decide +kernel
theorem dX11_advise_24 : decode cX11_advise 24 = .ok (.athrow, 1) := by decide +kernel
theorem dX11_advise_25 : decode cX11_advise 25 = .ok (.aload_n 0, 1) := by decide +kernel
theorem dX11_advise_26 : decode cX11_advise 26 = .ok (.getfield 17, 3) := by decide +kernel
theorem dX11_advise_29 : decode cX11_advise 29 = .ok (.getfield 218, 3) := by decide +kernel
theorem dX11_advise_32 : decode cX11_advise 32 = .ok (.bipush 8, 2) := by decide +kernel
theorem dX11_advise_34 : decode cX11_advise 34 = .ok (.if_icmp .lt 13, 3) := by decide +kernel
theorem dX11_advise_37 : decode cX11_advise 37 = .ok (.new 87, 3) := by decide +kernel
theorem dX11_advise_40 : decode cX11_advise 40 = .ok (.dup, 1) := by decide +kernel
theorem dX11_advise_41 : decode cX11_advise 41 = .ok (.ldc 222, 2) := by decide +kernel
theorem dX11_advise_43 : decode cX11_advise 43 = .ok (.invokespecial 91, 3) := by decide +kernel
theorem dX11_advise_46 : decode cX11_advise 46 = .ok (.athrow, 1) := by decide +kernel
theorem dX11_advise_47 : decode cX11_advise 47 = .ok (.aload_n 0, 1) := by decide +kernel
theorem dX11_advise_48 : decode cX11_advise 48 = .ok (.getfield 17, 3) := by decide +kernel
theorem dX11_advise_51 : decode cX11_advise 51 = .ok (.iload_n 1, 1) := by decide +kernel
theorem dX11_advise_52 : decode cX11_advise 52 = .ok (.iload_n 2, 1) := by decide +kernel
theorem dX11_advise_53 : decode cX11_advise 53 = .ok (.invokevirtual 224, 3) := by decide +kernel
theorem dX11_advise_56 : decode cX11_advise 56 = .ok (.ireturn, 1) := by decide +kernel
theorem dX11_mending_0 : decode cX11_mending 0 = .ok (.aload_n 0, 1) := by decide +kernel
theorem dX11_mending_1 : decode cX11_mending 1 = .ok (.iload_n 1, 1) := by decide +kernel
theorem dX11_mending_2 : decode cX11_mending 2 = .ok (.invokevirtual 105, 3) := by decide +kernel
theorem dX11_mending_5 : decode cX11_mending 5 = .ok (.ifCond .ne 13, 3) := by decide +kernel
theorem dX11_mending_8 : decode cX11_mending 8 = .ok (.new 56, 3) := by decide +kernel
theorem dX11_mending_11 : decode cX11_mending 11 = .ok (.dup, 1) := by decide +kernel
theorem dX11_mending_12 : decode cX11_mending 12 = .ok (.ldc 108, 2) := by decide +kernel
theorem dX11_mending_14 : decode cX11_mending 14 = .ok (.invokespecial 60, 3) := by decide +kernel
theorem dX11_mending_17 : decode cX11_mending 17 = .ok (.athrow, 1) := by decide +kernel
theorem dX11_mending_18 : decode cX11_mending 18 = .ok (.aload_n 0, 1) := by decide +kernel
theorem dX11_mending_19 : decode cX11_mending 19 = .ok (.getfield 17, 3) := by decide +kernel
theorem dX11_mending_22 : decode cX11_mending 22 = .ok (.iload_n 1, 1) := by decide +kernel
theorem dX11_mending_23 : decode cX11_mending 23 = .ok (.invokevirtual 227, 3) := by decide +kernel
theorem dX11_mending_26 : decode cX11_mending 26 = .ok (.ireturn, 1) := by decide +kernel
theorem dX11_replace_0 : decode cX11_replace 0 = .ok (.iload_n 1, 1) := by decide +kernel
theorem dX11_replace_1 : decode cX11_replace 1 = .ok (.invokestatic 48, 3) := by decide +kernel
theorem dX11_replace_4 : decode cX11_replace 4 = .ok (.ifCond .eq 15, 3) := by decide +kernel
theorem dX11_replace_7 : decode cX11_replace 7 = .ok (.iload_n 2, 1) := by decide +kernel
theorem dX11_replace_8 : decode cX11_replace 8 = .ok (.iconst (-1), 1) := by decide +kernel
theorem dX11_replace_9 : decode cX11_replace 9 = .ok (.if_icmp .eq 20, 3) := by decide +kernel
theorem dX11_replace_12 : decode cX11_replace 12 = .ok (.iload_n 2, 1) := by decide +kernel
theorem dX11_replace_13 : decode cX11_replace 13 = .ok (.invokestatic 48, 3) := by decide +kernel
theorem dX11_replace_16 : decode cX11_replace 16 = .ok (.ifCond .ne 13, 3) := by decide +kernel
theorem dX11_replace_19 : decode cX11_replace 19 = .ok (.new 56, 3) := by decide +kernel
theorem dX11_replace_22 : decode cX11_replace 22 = .ok (.dup, 1) := by decide +kernel
theorem dX11_replace_23 : decode cX11_replace 23 = .ok (.ldc 230, 2) := by decide +kernel
theorem dX11_replace_25 : decode cX11_replace 25 = .ok (.invokespecial 60, 3) := by decide +kernel
theorem dX11_replace_28 : decode cX11_replace 28 = .ok (.athrow, 1) := by decide +kernel
theorem dX11_replace_29 : decode cX11_replace 29 = .ok (.aload_n 0, 1) := by decide +kernel
theorem dX11_replace_30 : decode cX11_replace 30 = .ok (.getfield 17, 3) := by decide +kernel
theorem dX11_replace_33 : decode cX11_replace 33 = .ok (.iload_n 2, 1) := by decide +kernel
theorem dX11_replace_34 : decode cX11_replace 34 = .ok (.iload_n 1, 1) := by decide +kernel
theorem dX11_replace_35 : decode cX11_replace 35 = .ok (.invokevirtual 232, 3) := by decide +kernel
theorem dX11_replace_38 : decode cX11_replace 38 = .ok (.ifCond .eq 13, 3) := by decide +kernel
theorem dX11_replace_41 : decode cX11_replace 41 = .ok (.new 87, 3) := by decide +kernel
theorem dX11_replace_44 : decode cX11_replace 44 = .ok (.dup, 1) := by decide +kernel
theorem dX11_replace_45 : decode cX11_replace 45 = .ok (.ldc 235, 2) := by decide +kernel
theorem dX11_replace_47 : decode cX11_replace 47 = .ok (.invokespecial 91, 3) := by decide +kernel
theorem dX11_replace_50 : decode cX11_replace 50 = .ok (.athrow, 1) := by decide +kernel
theorem dX11_replace_51 : decode cX11_replace 51 = .ok (.aload_n 0, 1) := by decide +kernel
theorem dX11_replace_52 : decode cX11_replace 52 = .ok (.getfield 17, 3) := by decide +kernel
theorem dX11_replace_55 : decode cX11_replace 55 = .ok (.iload_n 1, 1) := by decide +kernel
theorem dX11_replace_56 : decode cX11_replace 56 = .ok (.iload_n 2, 1) := by decide +kernel
theorem dX11_replace_57 : decode cX11_replace 57 = .ok (.invokevirtual 237, 3) := by decide +kernel
theorem dX11_replace_60 : decode cX11_replace 60 = .ok (.ireturn, 1) := by decide +kernel
theorem dX11_setPlatform_0 : decode cX11_setPlatform 0 = .ok (.iconst 2, 1) := by decide +kernel
theorem dX11_setPlatform_1 : decode cX11_setPlatform 1 = .ok (.iload_n 1, 1) := by decide +kernel
theorem dX11_setPlatform_2 : decode cX11_setPlatform 2 = .ok (.invokestatic 52, 3) := by decide +kernel
theorem dX11_setPlatform_5 : decode cX11_setPlatform 5 = .ok (.ifCond .ne 13, 3) := by decide +kernel
theorem dX11_setPlatform_8 : decode cX11_setPlatform 8 = .ok (.new 56, 3) := by decide +kernel
theorem dX11_setPlatform_11 : decode cX11_setPlatform 11 = .ok (.dup, 1) := by decide +kernel
theorem dX11_setPlatform_12 : decode cX11_setPlatform 12 = .ok (.ldc 240, 2) := by decide +kernel
theorem dX11_setPlatform_14 : decode cX11_setPlatform 14 = .ok (.invokespecial 60, 3) := by decide +kernel
theorem dX11_setPlatform_17 : decode cX11_setPlatform 17 = .ok (.athrow, 1) := by decide +kernel
theorem dX11_setPlatform_18 : decode cX11_setPlatform 18 = .ok (.aload_n 0, 1) := by decide +kernel
theorem dX11_setPlatform_19 : decode cX11_setPlatform 19 = .ok (.getfield 17, 3) := by decide +kernel
theorem dX11_setPlatform_22 : decode cX11_setPlatform 22 = .ok (.getfield 242, 3) := by decide +kernel
theorem dX11_setPlatform_25 : decode cX11_setPlatform 25 = .ok (.istore_n 2, 1) := by decide +kernel
theorem dX11_setPlatform_26 : decode cX11_setPlatform 26 = .ok (.aload_n 0, 1) := by decide +kernel
theorem dX11_setPlatform_27 : decode cX11_setPlatform 27 = .ok (.getfield 17, 3) := by decide +kernel
theorem dX11_setPlatform_30 : decode cX11_setPlatform 30 = .ok (.iload_n 1, 1) := by decide +kernel
theorem dX11_setPlatform_31 : decode cX11_setPlatform 31 = .ok (.putfield 242, 3) := by decide +kernel
theorem dX11_setPlatform_34 : decode cX11_setPlatform 34 = .ok (.iload_n 2, 1) := by decide +kernel
theorem dX11_setPlatform_35 : decode cX11_setPlatform 35 = .ok (.ireturn, 1) := by decide +kernel
theorem dX11_solve_0 : decode cX11_solve 0 = .ok (.bipush 7, 2) := by decide +kernel
theorem dX11_solve_2 : decode cX11_solve 2 = .ok (.iload_n 1, 1) := by decide +kernel
theorem dX11_solve_3 : decode cX11_solve 3 = .ok (.invokestatic 52, 3) := by decide +kernel
theorem dX11_solve_6 : decode cX11_solve 6 = .ok (.ifCond .eq 12, 3) := by decide +kernel
theorem dX11_solve_9 : decode cX11_solve 9 = .ok (.bipush 63, 2) := by decide +kernel
theorem dX11_solve_11 : decode cX11_solve 11 = .ok (.iload_n 2, 1) := by decide +kernel
theorem dX11_solve_12 : decode cX11_solve 12 = .ok (.invokestatic 52, 3) := by decide +kernel
theorem dX11_solve_15 : decode cX11_solve 15 = .ok (.ifCond .ne 13, 3) := by decide +kernel
theorem dX11_solve_18 : decode cX11_solve 18 = .ok (.new 66, 3) := by decide +kernel
theorem dX11_solve_21 : decode cX11_solve 21 = .ok (.dup, 1) := by decide +kernel
theorem dX11_solve_22 : decode cX11_solve 22 = .ok (.ldc 245, 2) := by decide +kernel
theorem dX11_solve_24 : decode cX11_solve 24 = .ok (.invokespecial 70, 3) := by decide +kernel
theorem dX11_solve_27 : decode cX11_solve 27 = .ok (.athrow, 1) := by decide +kernel
theorem dX11_solve_28 : decode cX11_solve 28 = .ok (.aload_n 0, 1) := by decide +kernel
theorem dX11_solve_29 : decode cX11_solve 29 = .ok (.getfield 21, 3) := by decide +kernel
theorem dX11_solve_32 : decode cX11_solve 32 = .ok (.iload_n 1, 1) := by decide +kernel
theorem dX11_solve_33 : decode cX11_solve 33 = .ok (.putfield 247, 3) := by decide +kernel
theorem dX11_solve_36 : decode cX11_solve 36 = .ok (.aload_n 0, 1) := by decide +kernel
theorem dX11_solve_37 : decode cX11_solve 37 = .ok (.getfield 21, 3) := by decide +kernel
theorem dX11_solve_40 : decode cX11_solve 40 = .ok (.iload_n 2, 1) := by decide +kernel
theorem dX11_solve_41 : decode cX11_solve 41 = .ok (.putfield 250, 3) := by decide +kernel
theorem dX11_solve_44 : decode cX11_solve 44 = .ok (.aload_n 0, 1) := by decide +kernel
theorem dX11_solve_45 : decode cX11_solve 45 = .ok (.getfield 30, 3) := by decide +kernel
theorem dX11_solve_48 : decode cX11_solve 48 = .ok (.invokevirtual 253, 3) := by decide +kernel
theorem dX11_solve_51 : decode cX11_solve 51 = .ok (.ifCond .eq 20, 3) := by decide +kernel
theorem dX11_solve_54 : decode cX11_solve 54 = .ok (.bipush 6, 2) := by decide +kernel
theorem dX11_solve_56 : decode cX11_solve 56 = .ok (.aload_n 0, 1) := by decide +kernel
theorem dX11_solve_57 : decode cX11_solve 57 = .ok (.getfield 30, 3) := by decide +kernel
theorem dX11_solve_60 : decode cX11_solve 60 = .ok (.getfield 256, 3) := by decide +kernel
theorem dX11_solve_63 : decode cX11_solve 63 = .ok (.iconst (-1), 1) := by decide +kernel
theorem dX11_solve_64 : decode cX11_solve 64 = .ok (.invokevirtual 259, 3) := by decide +kernel
theorem dX11_solve_67 : decode cX11_solve 67 = .ok (.isub, 1) := by decide +kernel
theorem dX11_solve_68 : decode cX11_solve 68 = .ok (.goto 4, 3) := by decide +kernel
theorem dX11_solve_71 : decode cX11_solve 71 = .ok (.iconst (-1), 1) := by decide +kernel
theorem dX11_solve_72 : decode cX11_solve 72 = .ok (.ireturn, 1) := by decide +kernel
theorem dX11_chosen_0 : decode cX11_chosen 0 = .ok (.iload_n 1, 1) := by decide +kernel
theorem dX11_chosen_1 : decode cX11_chosen 1 = .ok (.invokestatic 48, 3) := by decide +kernel
theorem dX11_chosen_4 : decode cX11_chosen 4 = .ok (.ifCond .ne 13, 3) := by decide +kernel
theorem dX11_chosen_7 : decode cX11_chosen 7 = .ok (.new 56, 3) := by decide +kernel
theorem dX11_chosen_10 : decode cX11_chosen 10 = .ok (.dup, 1) := by decide +kernel
theorem dX11_chosen_11 : decode cX11_chosen 11 = .ok (.ldc 230, 2) := by decide +kernel
theorem dX11_chosen_13 : decode cX11_chosen 13 = .ok (.invokespecial 60, 3) := by decide +kernel
theorem dX11_chosen_16 : decode cX11_chosen 16 = .ok (.athrow, 1) := by decide +kernel
theorem dX11_chosen_17 : decode cX11_chosen 17 = .ok (.aload_n 0, 1) := by decide +kernel
theorem dX11_chosen_18 : decode cX11_chosen 18 = .ok (.getfield 30, 3) := by decide +kernel
theorem dX11_chosen_21 : decode cX11_chosen 21 = .ok (.invokevirtual 253, 3) := by decide +kernel
theorem dX11_chosen_24 : decode cX11_chosen 24 = .ok (.ifCond .eq 17, 3) := by decide +kernel
theorem dX11_chosen_27 : decode cX11_chosen 27 = .ok (.aload_n 0, 1) := by decide +kernel
theorem dX11_chosen_28 : decode cX11_chosen 28 = .ok (.getfield 30, 3) := by decide +kernel
theorem dX11_chosen_31 : decode cX11_chosen 31 = .ok (.getfield 256, 3) := by decide +kernel
theorem dX11_chosen_34 : decode cX11_chosen 34 = .ok (.iload_n 1, 1) := by decide +kernel
theorem dX11_chosen_35 : decode cX11_chosen 35 = .ok (.invokevirtual 114, 3) := by decide +kernel
theorem dX11_chosen_38 : decode cX11_chosen 38 = .ok (.goto 4, 3) := by decide +kernel
theorem dX11_chosen_41 : decode cX11_chosen 41 = .ok (.iconst (-1), 1) := by decide +kernel
theorem dX11_chosen_42 : decode cX11_chosen 42 = .ok (.ireturn, 1) := by decide +kernel
theorem dX11_chosenAnew_0 : decode cX11_chosenAnew 0 = .ok (.iload_n 1, 1) := by decide +kernel
theorem dX11_chosenAnew_1 : decode cX11_chosenAnew 1 = .ok (.invokestatic 48, 3) := by decide +kernel
theorem dX11_chosenAnew_4 : decode cX11_chosenAnew 4 = .ok (.ifCond .ne 13, 3) := by decide +kernel
theorem dX11_chosenAnew_7 : decode cX11_chosenAnew 7 = .ok (.new 56, 3) := by decide +kernel
theorem dX11_chosenAnew_10 : decode cX11_chosenAnew 10 = .ok (.dup, 1) := by decide +kernel
theorem dX11_chosenAnew_11 : decode cX11_chosenAnew 11 = .ok (.ldc 230, 2) := by decide +kernel
theorem dX11_chosenAnew_13 : decode cX11_chosenAnew 13 = .ok (.invokespecial 60, 3) := by decide +kernel
theorem dX11_chosenAnew_16 : decode cX11_chosenAnew 16 = .ok (.athrow, 1) := by decide +kernel
theorem dX11_chosenAnew_17 : decode cX11_chosenAnew 17 = .ok (.aload_n 0, 1) := by decide +kernel
theorem dX11_chosenAnew_18 : decode cX11_chosenAnew 18 = .ok (.getfield 37, 3) := by decide +kernel
theorem dX11_chosenAnew_21 : decode cX11_chosenAnew 21 = .ok (.invokevirtual 262, 3) := by decide +kernel
theorem dX11_chosenAnew_24 : decode cX11_chosenAnew 24 = .ok (.ifCond .eq 17, 3) := by decide +kernel
theorem dX11_chosenAnew_27 : decode cX11_chosenAnew 27 = .ok (.aload_n 0, 1) := by decide +kernel
theorem dX11_chosenAnew_28 : decode cX11_chosenAnew 28 = .ok (.getfield 37, 3) := by decide +kernel
theorem dX11_chosenAnew_31 : decode cX11_chosenAnew 31 = .ok (.getfield 263, 3) := by decide +kernel
theorem dX11_chosenAnew_34 : decode cX11_chosenAnew 34 = .ok (.iload_n 1, 1) := by decide +kernel
theorem dX11_chosenAnew_35 : decode cX11_chosenAnew 35 = .ok (.invokevirtual 114, 3) := by decide +kernel
theorem dX11_chosenAnew_38 : decode cX11_chosenAnew 38 = .ok (.goto 4, 3) := by decide +kernel
theorem dX11_chosenAnew_41 : decode cX11_chosenAnew 41 = .ok (.iconst (-1), 1) := by decide +kernel
theorem dX11_chosenAnew_42 : decode cX11_chosenAnew 42 = .ok (.ireturn, 1) := by decide +kernel
theorem dX11_features_0 : decode cX11_features 0 = .ok (.iload_n 1, 1) := by decide +kernel
theorem dX11_features_1 : decode cX11_features 1 = .ok (.invokestatic 48, 3) := by decide +kernel
theorem dX11_features_4 : decode cX11_features 4 = .ok (.ifCond .ne 13, 3) := by decide +kernel
theorem dX11_features_7 : decode cX11_features 7 = .ok (.new 56, 3) := by decide +kernel
theorem dX11_features_10 : decode cX11_features 10 = .ok (.dup, 1) := by decide +kernel
theorem dX11_features_11 : decode cX11_features 11 = .ok (.ldc 230, 2) := by decide +kernel
theorem dX11_features_13 : decode cX11_features 13 = .ok (.invokespecial 60, 3) := by decide +kernel
theorem dX11_features_16 : decode cX11_features 16 = .ok (.athrow, 1) := by decide +kernel
theorem dX11_features_17 : decode cX11_features 17 = .ok (.aload_n 0, 1) := by decide +kernel
theorem dX11_features_18 : decode cX11_features 18 = .ok (.getfield 30, 3) := by decide +kernel
theorem dX11_features_21 : decode cX11_features 21 = .ok (.invokevirtual 253, 3) := by decide +kernel
theorem dX11_features_24 : decode cX11_features 24 = .ok (.ifCond .eq 18, 3) := by decide +kernel
theorem dX11_features_27 : decode cX11_features 27 = .ok (.aload_n 0, 1) := by decide +kernel
theorem dX11_features_28 : decode cX11_features 28 = .ok (.getfield 30, 3) := by decide +kernel
theorem dX11_features_31 : decode cX11_features 31 = .ok (.getfield 256, 3) := by decide +kernel
theorem dX11_features_34 : decode cX11_features 34 = .ok (.iload_n 1, 1) := by decide +kernel
theorem dX11_features_35 : decode cX11_features 35 = .ok (.invokevirtual 114, 3) := by decide +kernel
theorem dX11_features_38 : decode cX11_features 38 = .ok (.iconst (-1), 1) := by decide +kernel
theorem dX11_features_39 : decode cX11_features 39 = .ok (.if_icmp .ne 5, 3) := by decide +kernel
theorem dX11_features_42 : decode cX11_features 42 = .ok (.iconst 0, 1) := by decide +kernel
theorem dX11_features_43 : decode cX11_features 43 = .ok (.ireturn, 1) := by decide +kernel
theorem dX11_features_44 : decode cX11_features 44 = .ok (.aload_n 0, 1) := by decide +kernel
theorem dX11_features_45 : decode cX11_features 45 = .ok (.getfield 30, 3) := by decide +kernel
theorem dX11_features_48 : decode cX11_features 48 = .ok (.iload_n 1, 1) := by decide +kernel
theorem dX11_features_49 : decode cX11_features 49 = .ok (.invokevirtual 264, 3) := by decide +kernel
theorem dX11_features_52 : decode cX11_features 52 = .ok (.ireturn, 1) := by decide +kernel
theorem dX11_solutions_0 : decode cX11_solutions 0 = .ok (.aload_n 0, 1) := by decide +kernel
theorem dX11_solutions_1 : decode cX11_solutions 1 = .ok (.getfield 30, 3) := by decide +kernel
theorem dX11_solutions_4 : decode cX11_solutions 4 = .ok (.aload_n 0, 1) := by decide +kernel
theorem dX11_solutions_5 : decode cX11_solutions 5 = .ok (.getfield 21, 3) := by decide +kernel
theorem dX11_solutions_8 : decode cX11_solutions 8 = .ok (.invokevirtual 267, 3) := by decide +kernel
theorem dX11_solutions_11 : decode cX11_solutions 11 = .ok (.iconst (-1), 1) := by decide +kernel
theorem dX11_solutions_12 : decode cX11_solutions 12 = .ok (.invokevirtual 270, 3) := by decide +kernel
theorem dX11_solutions_15 : decode cX11_solutions 15 = .ok (.iconst 0, 1) := by decide +kernel
theorem dX11_solutions_16 : decode cX11_solutions 16 = .ok (.istore_n 1, 1) := by decide +kernel
theorem dX11_solutions_17 : decode cX11_solutions 17 = .ok (.iload_n 1, 1) := by decide +kernel
theorem dX11_solutions_18 : decode cX11_solutions 18 = .ok (.sipush 1000, 3) := by decide +kernel
theorem dX11_solutions_21 : decode cX11_solutions 21 = .ok (.if_icmp .ge 19, 3) := by decide +kernel
theorem dX11_solutions_24 : decode cX11_solutions 24 = .ok (.aload_n 0, 1) := by decide +kernel
theorem dX11_solutions_25 : decode cX11_solutions 25 = .ok (.getfield 30, 3) := by decide +kernel
theorem dX11_solutions_28 : decode cX11_solutions 28 = .ok (.invokevirtual 273, 3) := by decide +kernel
theorem dX11_solutions_31 : decode cX11_solutions 31 = .ok (.ifCond .eq 9, 3) := by decide +kernel
theorem dX11_solutions_34 : decode cX11_solutions 34 = .ok (.iinc 1 1, 3) := by decide +kernel
theorem dX11_solutions_37 : decode cX11_solutions 37 = .ok (.goto (-20), 3) := by decide +kernel
theorem dX11_solutions_40 : decode cX11_solutions 40 = .ok (.iload_n 1, 1) := by decide +kernel
theorem dX11_solutions_41 : decode cX11_solutions 41 = .ok (.ireturn, 1) := by decide +kernel
theorem dX11_why_0 : decode cX11_why 0 = .ok (.aload_n 0, 1) := by decide +kernel
theorem dX11_why_1 : decode cX11_why 1 = .ok (.getfield 21, 3) := by decide +kernel
theorem dX11_why_4 : decode cX11_why 4 = .ok (.invokevirtual 267, 3) := by decide +kernel
theorem dX11_why_7 : decode cX11_why 7 = .ok (.istore_n 1, 1) := by decide +kernel
theorem dX11_why_8 : decode cX11_why 8 = .ok (.aload_n 0, 1) := by decide +kernel
theorem dX11_why_9 : decode cX11_why 9 = .ok (.getfield 30, 3) := by decide +kernel
theorem dX11_why_12 : decode cX11_why 12 = .ok (.iload_n 1, 1) := by decide +kernel
theorem dX11_why_13 : decode cX11_why 13 = .ok (.invokevirtual 276, 3) := by decide +kernel
theorem dX11_why_16 : decode cX11_why 16 = .ok (.ifCond .eq 5, 3) := by decide +kernel
theorem dX11_why_19 : decode cX11_why 19 = .ok (.iconst 0, 1) := by decide +kernel
theorem dX11_why_20 : decode cX11_why 20 = .ok (.ireturn, 1) := by decide +kernel
theorem dX11_why_21 : decode cX11_why 21 = .ok (.iconst 1, 1) := by decide +kernel
theorem dX11_why_22 : decode cX11_why 22 = .ok (.istore_n 2, 1) := by decide +kernel
theorem dX11_why_23 : decode cX11_why 23 = .ok (.iload_n 2, 1) := by decide +kernel
theorem dX11_why_24 : decode cX11_why 24 = .ok (.bipush 6, 2) := by decide +kernel
theorem dX11_why_26 : decode cX11_why 26 = .ok (.if_icmp .gt 51, 3) := by decide +kernel
theorem dX11_why_29 : decode cX11_why 29 = .ok (.iconst 1, 1) := by decide +kernel
theorem dX11_why_30 : decode cX11_why 30 = .ok (.istore_n 3, 1) := by decide +kernel
theorem dX11_why_31 : decode cX11_why 31 = .ok (.iload_n 3, 1) := by decide +kernel
theorem dX11_why_32 : decode cX11_why 32 = .ok (.iload_n 1, 1) := by decide +kernel
theorem dX11_why_33 : decode cX11_why 33 = .ok (.if_icmp .gt 38, 3) := by decide +kernel
theorem dX11_why_36 : decode cX11_why 36 = .ok (.iload_n 3, 1) := by decide +kernel
theorem dX11_why_37 : decode cX11_why 37 = .ok (.iload_n 1, 1) := by decide +kernel
theorem dX11_why_38 : decode cX11_why 38 = .ok (.iconst (-1), 1) := by decide +kernel
theorem dX11_why_39 : decode cX11_why 39 = .ok (.ixor, 1) := by decide +kernel
theorem dX11_why_40 : decode cX11_why 40 = .ok (.iand, 1) := by decide +kernel
theorem dX11_why_41 : decode cX11_why 41 = .ok (.ifCond .ne 24, 3) := by decide +kernel
theorem dX11_why_44 : decode cX11_why 44 = .ok (.iload_n 3, 1) := by decide +kernel
theorem dX11_why_45 : decode cX11_why 45 = .ok (.invokestatic 279, 3) := by decide +kernel
theorem dX11_why_48 : decode cX11_why 48 = .ok (.iload_n 2, 1) := by decide +kernel
theorem dX11_why_49 : decode cX11_why 49 = .ok (.if_icmp .ne 16, 3) := by decide +kernel
theorem dX11_why_52 : decode cX11_why 52 = .ok (.aload_n 0, 1) := by decide +kernel
theorem dX11_why_53 : decode cX11_why 53 = .ok (.getfield 30, 3) := by decide +kernel
theorem dX11_why_56 : decode cX11_why 56 = .ok (.iload_n 3, 1) := by decide +kernel
theorem dX11_why_57 : decode cX11_why 57 = .ok (.invokevirtual 276, 3) := by decide +kernel
theorem dX11_why_60 : decode cX11_why 60 = .ok (.ifCond .ne 5, 3) := by decide +kernel
theorem dX11_why_63 : decode cX11_why 63 = .ok (.iload_n 3, 1) := by decide +kernel
theorem dX11_why_64 : decode cX11_why 64 = .ok (.ireturn, 1) := by decide +kernel
theorem dX11_why_65 : decode cX11_why 65 = .ok (.iinc 3 1, 3) := by decide +kernel
theorem dX11_why_68 : decode cX11_why 68 = .ok (.goto (-37), 3) := by decide +kernel
theorem dX11_why_71 : decode cX11_why 71 = .ok (.iinc 2 1, 3) := by decide +kernel
theorem dX11_why_74 : decode cX11_why 74 = .ok (.goto (-51), 3) := by decide +kernel
theorem dX11_why_77 : decode cX11_why 77 = .ok (.iload_n 1, 1) := by decide +kernel
theorem dX11_why_78 : decode cX11_why 78 = .ok (.ireturn, 1) := by decide +kernel
theorem dX11_against_0 : decode cX11_against 0 = .ok (.aload_n 0, 1) := by decide +kernel
theorem dX11_against_1 : decode cX11_against 1 = .ok (.iload_n 1, 1) := by decide +kernel
theorem dX11_against_2 : decode cX11_against 2 = .ok (.invokevirtual 105, 3) := by decide +kernel
theorem dX11_against_5 : decode cX11_against 5 = .ok (.ifCond .ne 13, 3) := by decide +kernel
theorem dX11_against_8 : decode cX11_against 8 = .ok (.new 56, 3) := by decide +kernel
theorem dX11_against_11 : decode cX11_against 11 = .ok (.dup, 1) := by decide +kernel
theorem dX11_against_12 : decode cX11_against 12 = .ok (.ldc 108, 2) := by decide +kernel
theorem dX11_against_14 : decode cX11_against 14 = .ok (.invokespecial 60, 3) := by decide +kernel
theorem dX11_against_17 : decode cX11_against 17 = .ok (.athrow, 1) := by decide +kernel
theorem dX11_against_18 : decode cX11_against 18 = .ok (.aload_n 0, 1) := by decide +kernel
theorem dX11_against_19 : decode cX11_against 19 = .ok (.getfield 17, 3) := by decide +kernel
theorem dX11_against_22 : decode cX11_against 22 = .ok (.iload_n 1, 1) := by decide +kernel
theorem dX11_against_23 : decode cX11_against 23 = .ok (.invokevirtual 282, 3) := by decide +kernel
theorem dX11_against_26 : decode cX11_against 26 = .ok (.istore_n 2, 1) := by decide +kernel
theorem dX11_against_27 : decode cX11_against 27 = .ok (.iload_n 2, 1) := by decide +kernel
theorem dX11_against_28 : decode cX11_against 28 = .ok (.ifCond .eq 5, 3) := by decide +kernel
theorem dX11_against_31 : decode cX11_against 31 = .ok (.iload_n 2, 1) := by decide +kernel
theorem dX11_against_32 : decode cX11_against 32 = .ok (.ireturn, 1) := by decide +kernel
theorem dX11_against_33 : decode cX11_against 33 = .ok (.aload_n 0, 1) := by decide +kernel
theorem dX11_against_34 : decode cX11_against 34 = .ok (.getfield 17, 3) := by decide +kernel
theorem dX11_against_37 : decode cX11_against 37 = .ok (.aload_n 0, 1) := by decide +kernel
theorem dX11_against_38 : decode cX11_against 38 = .ok (.getfield 21, 3) := by decide +kernel
theorem dX11_against_41 : decode cX11_against 41 = .ok (.invokevirtual 267, 3) := by decide +kernel
theorem dX11_against_44 : decode cX11_against 44 = .ok (.iload_n 1, 1) := by decide +kernel
theorem dX11_against_45 : decode cX11_against 45 = .ok (.invokevirtual 285, 3) := by decide +kernel
theorem dX11_against_48 : decode cX11_against 48 = .ok (.ifCond .eq 5, 3) := by decide +kernel
theorem dX11_against_51 : decode cX11_against 51 = .ok (.iconst 5, 1) := by decide +kernel
theorem dX11_against_52 : decode cX11_against 52 = .ok (.ireturn, 1) := by decide +kernel
theorem dX11_against_53 : decode cX11_against 53 = .ok (.aload_n 0, 1) := by decide +kernel
theorem dX11_against_54 : decode cX11_against 54 = .ok (.getfield 30, 3) := by decide +kernel
theorem dX11_against_57 : decode cX11_against 57 = .ok (.aload_n 0, 1) := by decide +kernel
theorem dX11_against_58 : decode cX11_against 58 = .ok (.getfield 21, 3) := by decide +kernel
theorem dX11_against_61 : decode cX11_against 61 = .ok (.invokevirtual 267, 3) := by decide +kernel
theorem dX11_against_64 : decode cX11_against 64 = .ok (.iload_n 1, 1) := by decide +kernel
theorem dX11_against_65 : decode cX11_against 65 = .ok (.invokevirtual 270, 3) := by decide +kernel
theorem dX11_against_68 : decode cX11_against 68 = .ok (.aload_n 0, 1) := by decide +kernel
theorem dX11_against_69 : decode cX11_against 69 = .ok (.getfield 30, 3) := by decide +kernel
theorem dX11_against_72 : decode cX11_against 72 = .ok (.invokevirtual 273, 3) := by decide +kernel
theorem dX11_against_75 : decode cX11_against 75 = .ok (.ifCond .ne 6, 3) := by decide +kernel
theorem dX11_against_78 : decode cX11_against 78 = .ok (.bipush 6, 2) := by decide +kernel
theorem dX11_against_80 : decode cX11_against 80 = .ok (.ireturn, 1) := by decide +kernel
theorem dX11_against_81 : decode cX11_against 81 = .ok (.aload_n 0, 1) := by decide +kernel
theorem dX11_against_82 : decode cX11_against 82 = .ok (.getfield 17, 3) := by decide +kernel
theorem dX11_against_85 : decode cX11_against 85 = .ok (.getfield 75, 3) := by decide +kernel
theorem dX11_against_88 : decode cX11_against 88 = .ok (.getfield 110, 3) := by decide +kernel
theorem dX11_against_91 : decode cX11_against 91 = .ok (.iload_n 1, 1) := by decide +kernel
theorem dX11_against_92 : decode cX11_against 92 = .ok (.invokevirtual 114, 3) := by decide +kernel
theorem dX11_against_95 : decode cX11_against 95 = .ok (.istore_n 3, 1) := by decide +kernel
theorem dX11_against_96 : decode cX11_against 96 = .ok (.aload_n 0, 1) := by decide +kernel
theorem dX11_against_97 : decode cX11_against 97 = .ok (.getfield 30, 3) := by decide +kernel
theorem dX11_against_100 : decode cX11_against 100 = .ok (.invokevirtual 253, 3) := by decide +kernel
theorem dX11_against_103 : decode cX11_against 103 = .ok (.ifCond .eq 22, 3) := by decide +kernel
theorem dX11_against_106 : decode cX11_against 106 = .ok (.aload_n 0, 1) := by decide +kernel
theorem dX11_against_107 : decode cX11_against 107 = .ok (.getfield 30, 3) := by decide +kernel
theorem dX11_against_110 : decode cX11_against 110 = .ok (.getfield 256, 3) := by decide +kernel
theorem dX11_against_113 : decode cX11_against 113 = .ok (.iload_n 3, 1) := by decide +kernel
theorem dX11_against_114 : decode cX11_against 114 = .ok (.invokevirtual 114, 3) := by decide +kernel
theorem dX11_against_117 : decode cX11_against 117 = .ok (.iload_n 1, 1) := by decide +kernel
theorem dX11_against_118 : decode cX11_against 118 = .ok (.if_icmp .ne 7, 3) := by decide +kernel
theorem dX11_against_121 : decode cX11_against 121 = .ok (.iconst 0, 1) := by decide +kernel
theorem dX11_against_122 : decode cX11_against 122 = .ok (.goto 5, 3) := by decide +kernel
theorem dX11_against_125 : decode cX11_against 125 = .ok (.bipush 7, 2) := by decide +kernel
theorem dX11_against_127 : decode cX11_against 127 = .ok (.ireturn, 1) := by decide +kernel
theorem dX11_lock_0 : decode cX11_lock 0 = .ok (.aload_n 0, 1) := by decide +kernel
theorem dX11_lock_1 : decode cX11_lock 1 = .ok (.getfield 30, 3) := by decide +kernel
theorem dX11_lock_4 : decode cX11_lock 4 = .ok (.invokevirtual 253, 3) := by decide +kernel
theorem dX11_lock_7 : decode cX11_lock 7 = .ok (.ifCond .ne 14, 3) := by decide +kernel
theorem dX11_lock_10 : decode cX11_lock 10 = .ok (.new 87, 3) := by decide +kernel
theorem dX11_lock_13 : decode cX11_lock 13 = .ok (.dup, 1) := by decide +kernel
theorem dX11_lock_14 : decode cX11_lock 14 = .ok (.ldc_w 288, 3) := by decide +kernel
theorem dX11_lock_17 : decode cX11_lock 17 = .ok (.invokespecial 91, 3) := by decide +kernel
theorem dX11_lock_20 : decode cX11_lock 20 = .ok (.athrow, 1) := by decide +kernel
theorem dX11_lock_21 : decode cX11_lock 21 = .ok (.iconst 0, 1) := by decide +kernel
theorem dX11_lock_22 : decode cX11_lock 22 = .ok (.istore_n 1, 1) := by decide +kernel
theorem dX11_lock_23 : decode cX11_lock 23 = .ok (.iconst 0, 1) := by decide +kernel
theorem dX11_lock_24 : decode cX11_lock 24 = .ok (.istore_n 2, 1) := by decide +kernel
theorem dX11_lock_25 : decode cX11_lock 25 = .ok (.iload_n 2, 1) := by decide +kernel
theorem dX11_lock_26 : decode cX11_lock 26 = .ok (.bipush 6, 2) := by decide +kernel
theorem dX11_lock_28 : decode cX11_lock 28 = .ok (.if_icmp .ge 40, 3) := by decide +kernel
theorem dX11_lock_31 : decode cX11_lock 31 = .ok (.aload_n 0, 1) := by decide +kernel
theorem dX11_lock_32 : decode cX11_lock 32 = .ok (.getfield 30, 3) := by decide +kernel
theorem dX11_lock_35 : decode cX11_lock 35 = .ok (.getfield 256, 3) := by decide +kernel
theorem dX11_lock_38 : decode cX11_lock 38 = .ok (.iload_n 2, 1) := by decide +kernel
theorem dX11_lock_39 : decode cX11_lock 39 = .ok (.invokevirtual 114, 3) := by decide +kernel
theorem dX11_lock_42 : decode cX11_lock 42 = .ok (.istore_n 3, 1) := by decide +kernel
theorem dX11_lock_43 : decode cX11_lock 43 = .ok (.aload_n 0, 1) := by decide +kernel
theorem dX11_lock_44 : decode cX11_lock 44 = .ok (.getfield 17, 3) := by decide +kernel
theorem dX11_lock_47 : decode cX11_lock 47 = .ok (.getfield 290, 3) := by decide +kernel
theorem dX11_lock_50 : decode cX11_lock 50 = .ok (.iload_n 2, 1) := by decide +kernel
theorem dX11_lock_51 : decode cX11_lock 51 = .ok (.iload_n 3, 1) := by decide +kernel
theorem dX11_lock_52 : decode cX11_lock 52 = .ok (.invokevirtual 139, 3) := by decide +kernel
theorem dX11_lock_55 : decode cX11_lock 55 = .ok (.iload_n 3, 1) := by decide +kernel
theorem dX11_lock_56 : decode cX11_lock 56 = .ok (.if_icmp .eq 6, 3) := by decide +kernel
theorem dX11_lock_59 : decode cX11_lock 59 = .ok (.iinc 1 1, 3) := by decide +kernel
theorem dX11_lock_62 : decode cX11_lock 62 = .ok (.iinc 2 1, 3) := by decide +kernel
theorem dX11_lock_65 : decode cX11_lock 65 = .ok (.goto (-40), 3) := by decide +kernel
theorem dX11_lock_68 : decode cX11_lock 68 = .ok (.iload_n 1, 1) := by decide +kernel
theorem dX11_lock_69 : decode cX11_lock 69 = .ok (.ireturn, 1) := by decide +kernel
theorem dX11_unlock_0 : decode cX11_unlock 0 = .ok (.iload_n 1, 1) := by decide +kernel
theorem dX11_unlock_1 : decode cX11_unlock 1 = .ok (.invokestatic 48, 3) := by decide +kernel
theorem dX11_unlock_4 : decode cX11_unlock 4 = .ok (.ifCond .ne 13, 3) := by decide +kernel
theorem dX11_unlock_7 : decode cX11_unlock 7 = .ok (.new 56, 3) := by decide +kernel
theorem dX11_unlock_10 : decode cX11_unlock 10 = .ok (.dup, 1) := by decide +kernel
theorem dX11_unlock_11 : decode cX11_unlock 11 = .ok (.ldc 230, 2) := by decide +kernel
theorem dX11_unlock_13 : decode cX11_unlock 13 = .ok (.invokespecial 60, 3) := by decide +kernel
theorem dX11_unlock_16 : decode cX11_unlock 16 = .ok (.athrow, 1) := by decide +kernel
theorem dX11_unlock_17 : decode cX11_unlock 17 = .ok (.aload_n 0, 1) := by decide +kernel
theorem dX11_unlock_18 : decode cX11_unlock 18 = .ok (.getfield 17, 3) := by decide +kernel
theorem dX11_unlock_21 : decode cX11_unlock 21 = .ok (.getfield 290, 3) := by decide +kernel
theorem dX11_unlock_24 : decode cX11_unlock 24 = .ok (.iload_n 1, 1) := by decide +kernel
theorem dX11_unlock_25 : decode cX11_unlock 25 = .ok (.iconst (-1), 1) := by decide +kernel
theorem dX11_unlock_26 : decode cX11_unlock 26 = .ok (.invokevirtual 139, 3) := by decide +kernel
theorem dX11_unlock_29 : decode cX11_unlock 29 = .ok (.ireturn, 1) := by decide +kernel
theorem dX11_install_0 : decode cX11_install 0 = .ok (.iload_n 1, 1) := by decide +kernel
theorem dX11_install_1 : decode cX11_install 1 = .ok (.iconst 1, 1) := by decide +kernel
theorem dX11_install_2 : decode cX11_install 2 = .ok (.if_icmp .lt 9, 3) := by decide +kernel
theorem dX11_install_5 : decode cX11_install 5 = .ok (.iload_n 1, 1) := by decide +kernel
theorem dX11_install_6 : decode cX11_install 6 = .ok (.bipush 10, 2) := by decide +kernel
theorem dX11_install_8 : decode cX11_install 8 = .ok (.if_icmp .le 14, 3) := by decide +kernel
theorem dX11_install_11 : decode cX11_install 11 = .ok (.new 66, 3) := by decide +kernel
theorem dX11_install_14 : decode cX11_install 14 = .ok (.dup, 1) := by decide +kernel
theorem dX11_install_15 : decode cX11_install 15 = .ok (.ldc_w 293, 3) := by decide +kernel
theorem dX11_install_18 : decode cX11_install 18 = .ok (.invokespecial 70, 3) := by decide +kernel
theorem dX11_install_21 : decode cX11_install 21 = .ok (.athrow, 1) := by decide +kernel
theorem dX11_install_22 : decode cX11_install 22 = .ok (.aload_n 0, 1) := by decide +kernel
theorem dX11_install_23 : decode cX11_install 23 = .ok (.getfield 30, 3) := by decide +kernel
theorem dX11_install_26 : decode cX11_install 26 = .ok (.invokevirtual 253, 3) := by decide +kernel
theorem dX11_install_29 : decode cX11_install 29 = .ok (.ifCond .ne 14, 3) := by decide +kernel
theorem dX11_install_32 : decode cX11_install 32 = .ok (.new 87, 3) := by decide +kernel
theorem dX11_install_35 : decode cX11_install 35 = .ok (.dup, 1) := by decide +kernel
theorem dX11_install_36 : decode cX11_install 36 = .ok (.ldc_w 288, 3) := by decide +kernel
theorem dX11_install_39 : decode cX11_install 39 = .ok (.invokespecial 91, 3) := by decide +kernel
theorem dX11_install_42 : decode cX11_install 42 = .ok (.athrow, 1) := by decide +kernel
theorem dX11_install_43 : decode cX11_install 43 = .ok (.iconst 0, 1) := by decide +kernel
theorem dX11_install_44 : decode cX11_install 44 = .ok (.istore_n 2, 1) := by decide +kernel
theorem dX11_install_45 : decode cX11_install 45 = .ok (.iconst 0, 1) := by decide +kernel
theorem dX11_install_46 : decode cX11_install 46 = .ok (.istore_n 3, 1) := by decide +kernel
theorem dX11_install_47 : decode cX11_install 47 = .ok (.iload_n 3, 1) := by decide +kernel
theorem dX11_install_48 : decode cX11_install 48 = .ok (.bipush 6, 2) := by decide +kernel
theorem dX11_install_50 : decode cX11_install 50 = .ok (.if_icmp .ge 74, 3) := by decide +kernel
theorem dX11_install_53 : decode cX11_install 53 = .ok (.iload_n 2, 1) := by decide +kernel
theorem dX11_install_54 : decode cX11_install 54 = .ok (.iload_n 1, 1) := by decide +kernel
theorem dX11_install_55 : decode cX11_install 55 = .ok (.if_icmp .ge 69, 3) := by decide +kernel
theorem dX11_install_58 : decode cX11_install 58 = .ok (.aload_n 0, 1) := by decide +kernel
theorem dX11_install_59 : decode cX11_install 59 = .ok (.getfield 30, 3) := by decide +kernel
theorem dX11_install_62 : decode cX11_install 62 = .ok (.getfield 256, 3) := by decide +kernel
theorem dX11_install_65 : decode cX11_install 65 = .ok (.iload_n 3, 1) := by decide +kernel
theorem dX11_install_66 : decode cX11_install 66 = .ok (.invokevirtual 114, 3) := by decide +kernel
theorem dX11_install_69 : decode cX11_install 69 = .ok (.istore 4, 2) := by decide +kernel
theorem dX11_install_71 : decode cX11_install 71 = .ok (.aload_n 0, 1) := by decide +kernel
theorem dX11_install_72 : decode cX11_install 72 = .ok (.getfield 17, 3) := by decide +kernel
theorem dX11_install_75 : decode cX11_install 75 = .ok (.getfield 75, 3) := by decide +kernel
theorem dX11_install_78 : decode cX11_install 78 = .ok (.getfield 295, 3) := by decide +kernel
theorem dX11_install_81 : decode cX11_install 81 = .ok (.iload 4, 2) := by decide +kernel
theorem dX11_install_83 : decode cX11_install 83 = .ok (.invokevirtual 114, 3) := by decide +kernel
theorem dX11_install_86 : decode cX11_install 86 = .ok (.istore 5, 2) := by decide +kernel
theorem dX11_install_88 : decode cX11_install 88 = .ok (.aload_n 0, 1) := by decide +kernel
theorem dX11_install_89 : decode cX11_install 89 = .ok (.getfield 44, 3) := by decide +kernel
theorem dX11_install_92 : decode cX11_install 92 = .ok (.iload_n 3, 1) := by decide +kernel
theorem dX11_install_93 : decode cX11_install 93 = .ok (.iload 4, 2) := by decide +kernel
theorem dX11_install_95 : decode cX11_install 95 = .ok (.iload 5, 2) := by decide +kernel
theorem dX11_install_97 : decode cX11_install 97 = .ok (.invokevirtual 298, 3) := by decide +kernel
theorem dX11_install_100 : decode cX11_install 100 = .ok (.ifCond .eq 18, 3) := by decide +kernel
theorem dX11_install_103 : decode cX11_install 103 = .ok (.aload_n 0, 1) := by decide +kernel
theorem dX11_install_104 : decode cX11_install 104 = .ok (.getfield 44, 3) := by decide +kernel
theorem dX11_install_107 : decode cX11_install 107 = .ok (.iload_n 3, 1) := by decide +kernel
theorem dX11_install_108 : decode cX11_install 108 = .ok (.iload 4, 2) := by decide +kernel
theorem dX11_install_110 : decode cX11_install 110 = .ok (.iload 5, 2) := by decide +kernel
theorem dX11_install_112 : decode cX11_install 112 = .ok (.invokevirtual 302, 3) := by decide +kernel
theorem dX11_install_115 : decode cX11_install 115 = .ok (.iinc 2 1, 3) := by decide +kernel
theorem dX11_install_118 : decode cX11_install 118 = .ok (.iinc 3 1, 3) := by decide +kernel
theorem dX11_install_121 : decode cX11_install 121 = .ok (.goto (-74), 3) := by decide +kernel
theorem dX11_install_124 : decode cX11_install 124 = .ok (.iload_n 2, 1) := by decide +kernel
theorem dX11_install_125 : decode cX11_install 125 = .ok (.ireturn, 1) := by decide +kernel
theorem dX11_spoil_0 : decode cX11_spoil 0 = .ok (.iload_n 1, 1) := by decide +kernel
theorem dX11_spoil_1 : decode cX11_spoil 1 = .ok (.invokestatic 48, 3) := by decide +kernel
theorem dX11_spoil_4 : decode cX11_spoil 4 = .ok (.ifCond .ne 13, 3) := by decide +kernel
theorem dX11_spoil_7 : decode cX11_spoil 7 = .ok (.new 56, 3) := by decide +kernel
theorem dX11_spoil_10 : decode cX11_spoil 10 = .ok (.dup, 1) := by decide +kernel
theorem dX11_spoil_11 : decode cX11_spoil 11 = .ok (.ldc 230, 2) := by decide +kernel
theorem dX11_spoil_13 : decode cX11_spoil 13 = .ok (.invokespecial 60, 3) := by decide +kernel
theorem dX11_spoil_16 : decode cX11_spoil 16 = .ok (.athrow, 1) := by decide +kernel
theorem dX11_spoil_17 : decode cX11_spoil 17 = .ok (.aload_n 0, 1) := by decide +kernel
theorem dX11_spoil_18 : decode cX11_spoil 18 = .ok (.getfield 44, 3) := by decide +kernel
theorem dX11_spoil_21 : decode cX11_spoil 21 = .ok (.getfield 306, 3) := by decide +kernel
theorem dX11_spoil_24 : decode cX11_spoil 24 = .ok (.iload_n 1, 1) := by decide +kernel
theorem dX11_spoil_25 : decode cX11_spoil 25 = .ok (.invokevirtual 114, 3) := by decide +kernel
theorem dX11_spoil_28 : decode cX11_spoil 28 = .ok (.iconst (-1), 1) := by decide +kernel
theorem dX11_spoil_29 : decode cX11_spoil 29 = .ok (.if_icmp .ne 14, 3) := by decide +kernel
theorem dX11_spoil_32 : decode cX11_spoil 32 = .ok (.new 87, 3) := by decide +kernel
theorem dX11_spoil_35 : decode cX11_spoil 35 = .ok (.dup, 1) := by decide +kernel
theorem dX11_spoil_36 : decode cX11_spoil 36 = .ok (.ldc_w 308, 3) := by decide +kernel
theorem dX11_spoil_39 : decode cX11_spoil 39 = .ok (.invokespecial 91, 3) := by decide +kernel
theorem dX11_spoil_42 : decode cX11_spoil 42 = .ok (.athrow, 1) := by decide +kernel
theorem dX11_spoil_43 : decode cX11_spoil 43 = .ok (.aload_n 0, 1) := by decide +kernel
theorem dX11_spoil_44 : decode cX11_spoil 44 = .ok (.getfield 44, 3) := by decide +kernel
theorem dX11_spoil_47 : decode cX11_spoil 47 = .ok (.getfield 310, 3) := by decide +kernel
theorem dX11_spoil_50 : decode cX11_spoil 50 = .ok (.iload_n 1, 1) := by decide +kernel
theorem dX11_spoil_51 : decode cX11_spoil 51 = .ok (.invokevirtual 114, 3) := by decide +kernel
theorem dX11_spoil_54 : decode cX11_spoil 54 = .ok (.iconst 1, 1) := by decide +kernel
theorem dX11_spoil_55 : decode cX11_spoil 55 = .ok (.iadd, 1) := by decide +kernel
theorem dX11_spoil_56 : decode cX11_spoil 56 = .ok (.istore_n 2, 1) := by decide +kernel
theorem dX11_spoil_57 : decode cX11_spoil 57 = .ok (.aload_n 0, 1) := by decide +kernel
theorem dX11_spoil_58 : decode cX11_spoil 58 = .ok (.getfield 44, 3) := by decide +kernel
theorem dX11_spoil_61 : decode cX11_spoil 61 = .ok (.getfield 310, 3) := by decide +kernel
theorem dX11_spoil_64 : decode cX11_spoil 64 = .ok (.iload_n 1, 1) := by decide +kernel
theorem dX11_spoil_65 : decode cX11_spoil 65 = .ok (.iload_n 2, 1) := by decide +kernel
theorem dX11_spoil_66 : decode cX11_spoil 66 = .ok (.invokevirtual 311, 3) := by decide +kernel
theorem dX11_spoil_69 : decode cX11_spoil 69 = .ok (.iload_n 2, 1) := by decide +kernel
theorem dX11_spoil_70 : decode cX11_spoil 70 = .ok (.ireturn, 1) := by decide +kernel
theorem dX11_onDisk_0 : decode cX11_onDisk 0 = .ok (.iload_n 1, 1) := by decide +kernel
theorem dX11_onDisk_1 : decode cX11_onDisk 1 = .ok (.invokestatic 48, 3) := by decide +kernel
theorem dX11_onDisk_4 : decode cX11_onDisk 4 = .ok (.ifCond .ne 13, 3) := by decide +kernel
theorem dX11_onDisk_7 : decode cX11_onDisk 7 = .ok (.new 56, 3) := by decide +kernel
theorem dX11_onDisk_10 : decode cX11_onDisk 10 = .ok (.dup, 1) := by decide +kernel
theorem dX11_onDisk_11 : decode cX11_onDisk 11 = .ok (.ldc 230, 2) := by decide +kernel
theorem dX11_onDisk_13 : decode cX11_onDisk 13 = .ok (.invokespecial 60, 3) := by decide +kernel
theorem dX11_onDisk_16 : decode cX11_onDisk 16 = .ok (.athrow, 1) := by decide +kernel
theorem dX11_onDisk_17 : decode cX11_onDisk 17 = .ok (.aload_n 0, 1) := by decide +kernel
theorem dX11_onDisk_18 : decode cX11_onDisk 18 = .ok (.getfield 44, 3) := by decide +kernel
theorem dX11_onDisk_21 : decode cX11_onDisk 21 = .ok (.getfield 306, 3) := by decide +kernel
theorem dX11_onDisk_24 : decode cX11_onDisk 24 = .ok (.iload_n 1, 1) := by decide +kernel
theorem dX11_onDisk_25 : decode cX11_onDisk 25 = .ok (.invokevirtual 114, 3) := by decide +kernel
theorem dX11_onDisk_28 : decode cX11_onDisk 28 = .ok (.istore_n 2, 1) := by decide +kernel
theorem dX11_onDisk_29 : decode cX11_onDisk 29 = .ok (.iload_n 2, 1) := by decide +kernel
theorem dX11_onDisk_30 : decode cX11_onDisk 30 = .ok (.iconst (-1), 1) := by decide +kernel
theorem dX11_onDisk_31 : decode cX11_onDisk 31 = .ok (.if_icmp .ne 7, 3) := by decide +kernel
theorem dX11_onDisk_34 : decode cX11_onDisk 34 = .ok (.iconst (-1), 1) := by decide +kernel
theorem dX11_onDisk_35 : decode cX11_onDisk 35 = .ok (.goto 20, 3) := by decide +kernel
theorem dX11_onDisk_38 : decode cX11_onDisk 38 = .ok (.sipush 10000, 3) := by decide +kernel
theorem dX11_onDisk_41 : decode cX11_onDisk 41 = .ok (.iload_n 2, 1) := by decide +kernel
theorem dX11_onDisk_42 : decode cX11_onDisk 42 = .ok (.imul, 1) := by decide +kernel
theorem dX11_onDisk_43 : decode cX11_onDisk 43 = .ok (.aload_n 0, 1) := by decide +kernel
theorem dX11_onDisk_44 : decode cX11_onDisk 44 = .ok (.getfield 44, 3) := by decide +kernel
theorem dX11_onDisk_47 : decode cX11_onDisk 47 = .ok (.getfield 310, 3) := by decide +kernel
theorem dX11_onDisk_50 : decode cX11_onDisk 50 = .ok (.iload_n 1, 1) := by decide +kernel
theorem dX11_onDisk_51 : decode cX11_onDisk 51 = .ok (.invokevirtual 114, 3) := by decide +kernel
theorem dX11_onDisk_54 : decode cX11_onDisk 54 = .ok (.iadd, 1) := by decide +kernel
theorem dX11_onDisk_55 : decode cX11_onDisk 55 = .ok (.ireturn, 1) := by decide +kernel
theorem dX11_pending_0 : decode cX11_pending 0 = .ok (.aload_n 0, 1) := by decide +kernel
theorem dX11_pending_1 : decode cX11_pending 1 = .ok (.getfield 30, 3) := by decide +kernel
theorem dX11_pending_4 : decode cX11_pending 4 = .ok (.invokevirtual 253, 3) := by decide +kernel
theorem dX11_pending_7 : decode cX11_pending 7 = .ok (.ifCond .ne 5, 3) := by decide +kernel
theorem dX11_pending_10 : decode cX11_pending 10 = .ok (.iconst (-1), 1) := by decide +kernel
theorem dX11_pending_11 : decode cX11_pending 11 = .ok (.ireturn, 1) := by decide +kernel
theorem dX11_pending_12 : decode cX11_pending 12 = .ok (.iconst 0, 1) := by decide +kernel
theorem dX11_pending_13 : decode cX11_pending 13 = .ok (.istore_n 1, 1) := by decide +kernel
theorem dX11_pending_14 : decode cX11_pending 14 = .ok (.iconst 0, 1) := by decide +kernel
theorem dX11_pending_15 : decode cX11_pending 15 = .ok (.istore_n 2, 1) := by decide +kernel
theorem dX11_pending_16 : decode cX11_pending 16 = .ok (.iload_n 2, 1) := by decide +kernel
theorem dX11_pending_17 : decode cX11_pending 17 = .ok (.bipush 6, 2) := by decide +kernel
theorem dX11_pending_19 : decode cX11_pending 19 = .ok (.if_icmp .ge 50, 3) := by decide +kernel
theorem dX11_pending_22 : decode cX11_pending 22 = .ok (.aload_n 0, 1) := by decide +kernel
theorem dX11_pending_23 : decode cX11_pending 23 = .ok (.getfield 30, 3) := by decide +kernel
theorem dX11_pending_26 : decode cX11_pending 26 = .ok (.getfield 256, 3) := by decide +kernel
theorem dX11_pending_29 : decode cX11_pending 29 = .ok (.iload_n 2, 1) := by decide +kernel
theorem dX11_pending_30 : decode cX11_pending 30 = .ok (.invokevirtual 114, 3) := by decide +kernel
theorem dX11_pending_33 : decode cX11_pending 33 = .ok (.istore_n 3, 1) := by decide +kernel
theorem dX11_pending_34 : decode cX11_pending 34 = .ok (.aload_n 0, 1) := by decide +kernel
theorem dX11_pending_35 : decode cX11_pending 35 = .ok (.getfield 44, 3) := by decide +kernel
theorem dX11_pending_38 : decode cX11_pending 38 = .ok (.iload_n 2, 1) := by decide +kernel
theorem dX11_pending_39 : decode cX11_pending 39 = .ok (.iload_n 3, 1) := by decide +kernel
theorem dX11_pending_40 : decode cX11_pending 40 = .ok (.aload_n 0, 1) := by decide +kernel
theorem dX11_pending_41 : decode cX11_pending 41 = .ok (.getfield 17, 3) := by decide +kernel
theorem dX11_pending_44 : decode cX11_pending 44 = .ok (.getfield 75, 3) := by decide +kernel
theorem dX11_pending_47 : decode cX11_pending 47 = .ok (.getfield 295, 3) := by decide +kernel
theorem dX11_pending_50 : decode cX11_pending 50 = .ok (.iload_n 3, 1) := by decide +kernel
theorem dX11_pending_51 : decode cX11_pending 51 = .ok (.invokevirtual 114, 3) := by decide +kernel
theorem dX11_pending_54 : decode cX11_pending 54 = .ok (.invokevirtual 298, 3) := by decide +kernel
theorem dX11_pending_57 : decode cX11_pending 57 = .ok (.ifCond .eq 6, 3) := by decide +kernel
theorem dX11_pending_60 : decode cX11_pending 60 = .ok (.iinc 1 1, 3) := by decide +kernel
theorem dX11_pending_63 : decode cX11_pending 63 = .ok (.iinc 2 1, 3) := by decide +kernel
theorem dX11_pending_66 : decode cX11_pending 66 = .ok (.goto (-50), 3) := by decide +kernel
theorem dX11_pending_69 : decode cX11_pending 69 = .ok (.iload_n 1, 1) := by decide +kernel
theorem dX11_pending_70 : decode cX11_pending 70 = .ok (.ireturn, 1) := by decide +kernel
theorem dX11_isUpTo_0 : decode cX11_isUpTo 0 = .ok (.iload_n 1, 1) := by decide +kernel
theorem dX11_isUpTo_1 : decode cX11_isUpTo 1 = .ok (.ifCond .lt 12, 3) := by decide +kernel
theorem dX11_isUpTo_4 : decode cX11_isUpTo 4 = .ok (.iload_n 1, 1) := by decide +kernel
theorem dX11_isUpTo_5 : decode cX11_isUpTo 5 = .ok (.iload_n 0, 1) := by decide +kernel
theorem dX11_isUpTo_6 : decode cX11_isUpTo 6 = .ok (.if_icmp .gt 7, 3) := by decide +kernel
theorem dX11_isUpTo_9 : decode cX11_isUpTo 9 = .ok (.iconst 1, 1) := by decide +kernel
theorem dX11_isUpTo_10 : decode cX11_isUpTo 10 = .ok (.goto 4, 3) := by decide +kernel
theorem dX11_isUpTo_13 : decode cX11_isUpTo 13 = .ok (.iconst 0, 1) := by decide +kernel
theorem dX11_isUpTo_14 : decode cX11_isUpTo 14 = .ok (.ireturn, 1) := by decide +kernel
theorem dX11_isDigit_0 : decode cX11_isDigit 0 = .ok (.bipush 9, 2) := by decide +kernel
theorem dX11_isDigit_2 : decode cX11_isDigit 2 = .ok (.iload_n 0, 1) := by decide +kernel
theorem dX11_isDigit_3 : decode cX11_isDigit 3 = .ok (.invokestatic 52, 3) := by decide +kernel
theorem dX11_isDigit_6 : decode cX11_isDigit 6 = .ok (.ireturn, 1) := by decide +kernel
theorem dX11_isPackage_0 : decode cX11_isPackage 0 = .ok (.iconst 5, 1) := by decide +kernel
theorem dX11_isPackage_1 : decode cX11_isPackage 1 = .ok (.iload_n 0, 1) := by decide +kernel
theorem dX11_isPackage_2 : decode cX11_isPackage 2 = .ok (.invokestatic 52, 3) := by decide +kernel
theorem dX11_isPackage_5 : decode cX11_isPackage 5 = .ok (.ireturn, 1) := by decide +kernel
theorem dX11_isVersion_0 : decode cX11_isVersion 0 = .ok (.aload_n 0, 1) := by decide +kernel
theorem dX11_isVersion_1 : decode cX11_isVersion 1 = .ok (.getfield 17, 3) := by decide +kernel
theorem dX11_isVersion_4 : decode cX11_isVersion 4 = .ok (.getfield 75, 3) := by decide +kernel
theorem dX11_isVersion_7 : decode cX11_isVersion 7 = .ok (.getfield 314, 3) := by decide +kernel
theorem dX11_isVersion_10 : decode cX11_isVersion 10 = .ok (.iconst 1, 1) := by decide +kernel
theorem dX11_isVersion_11 : decode cX11_isVersion 11 = .ok (.isub, 1) := by decide +kernel
theorem dX11_isVersion_12 : decode cX11_isVersion 12 = .ok (.iload_n 1, 1) := by decide +kernel
theorem dX11_isVersion_13 : decode cX11_isVersion 13 = .ok (.invokestatic 52, 3) := by decide +kernel
theorem dX11_isVersion_16 : decode cX11_isVersion 16 = .ok (.ireturn, 1) := by decide +kernel
theorem dX11_isRange_0 : decode cX11_isRange 0 = .ok (.aload_n 0, 1) := by decide +kernel
theorem dX11_isRange_1 : decode cX11_isRange 1 = .ok (.getfield 17, 3) := by decide +kernel
theorem dX11_isRange_4 : decode cX11_isRange 4 = .ok (.getfield 95, 3) := by decide +kernel
theorem dX11_isRange_7 : decode cX11_isRange 7 = .ok (.getfield 316, 3) := by decide +kernel
theorem dX11_isRange_10 : decode cX11_isRange 10 = .ok (.iconst 1, 1) := by decide +kernel
theorem dX11_isRange_11 : decode cX11_isRange 11 = .ok (.isub, 1) := by decide +kernel
theorem dX11_isRange_12 : decode cX11_isRange 12 = .ok (.iload_n 1, 1) := by decide +kernel
theorem dX11_isRange_13 : decode cX11_isRange 13 = .ok (.invokestatic 52, 3) := by decide +kernel
theorem dX11_isRange_16 : decode cX11_isRange 16 = .ok (.ireturn, 1) := by decide +kernel
theorem dX11_isIn_0 : decode cX11_isIn 0 = .ok (.iload_n 1, 1) := by decide +kernel
theorem dX11_isIn_1 : decode cX11_isIn 1 = .ok (.ifCond .lt 16, 3) := by decide +kernel
theorem dX11_isIn_4 : decode cX11_isIn 4 = .ok (.iload_n 0, 1) := by decide +kernel
theorem dX11_isIn_5 : decode cX11_isIn 5 = .ok (.iload_n 1, 1) := by decide +kernel
theorem dX11_isIn_6 : decode cX11_isIn 6 = .ok (.ishr, 1) := by decide +kernel
theorem dX11_isIn_7 : decode cX11_isIn 7 = .ok (.iconst 1, 1) := by decide +kernel
theorem dX11_isIn_8 : decode cX11_isIn 8 = .ok (.iand, 1) := by decide +kernel
theorem dX11_isIn_9 : decode cX11_isIn 9 = .ok (.iconst 1, 1) := by decide +kernel
theorem dX11_isIn_10 : decode cX11_isIn 10 = .ok (.if_icmp .ne 7, 3) := by decide +kernel
theorem dX11_isIn_13 : decode cX11_isIn 13 = .ok (.iconst 1, 1) := by decide +kernel
theorem dX11_isIn_14 : decode cX11_isIn 14 = .ok (.goto 4, 3) := by decide +kernel
theorem dX11_isIn_17 : decode cX11_isIn 17 = .ok (.iconst 0, 1) := by decide +kernel
theorem dX11_isIn_18 : decode cX11_isIn 18 = .ok (.ireturn, 1) := by decide +kernel
theorem dX11_rankOf_0 : decode cX11_rankOf 0 = .ok (.iload_n 0, 1) := by decide +kernel
theorem dX11_rankOf_1 : decode cX11_rankOf 1 = .ok (.iconst 4, 1) := by decide +kernel
theorem dX11_rankOf_2 : decode cX11_rankOf 2 = .ok (.ishl, 1) := by decide +kernel
theorem dX11_rankOf_3 : decode cX11_rankOf 3 = .ok (.iload_n 1, 1) := by decide +kernel
theorem dX11_rankOf_4 : decode cX11_rankOf 4 = .ok (.ior, 1) := by decide +kernel
theorem dX11_rankOf_5 : decode cX11_rankOf 5 = .ok (.iconst 4, 1) := by decide +kernel
theorem dX11_rankOf_6 : decode cX11_rankOf 6 = .ok (.ishl, 1) := by decide +kernel
theorem dX11_rankOf_7 : decode cX11_rankOf 7 = .ok (.iload_n 2, 1) := by decide +kernel
theorem dX11_rankOf_8 : decode cX11_rankOf 8 = .ok (.ior, 1) := by decide +kernel
theorem dX11_rankOf_9 : decode cX11_rankOf 9 = .ok (.istore 4, 2) := by decide +kernel
theorem dX11_rankOf_11 : decode cX11_rankOf 11 = .ok (.iload 4, 2) := by decide +kernel
theorem dX11_rankOf_13 : decode cX11_rankOf 13 = .ok (.iconst 4, 1) := by decide +kernel
theorem dX11_rankOf_14 : decode cX11_rankOf 14 = .ok (.ishl, 1) := by decide +kernel
theorem dX11_rankOf_15 : decode cX11_rankOf 15 = .ok (.iload_n 3, 1) := by decide +kernel
theorem dX11_rankOf_16 : decode cX11_rankOf 16 = .ok (.ifCond .ne 8, 3) := by decide +kernel
theorem dX11_rankOf_19 : decode cX11_rankOf 19 = .ok (.bipush 10, 2) := by decide +kernel
theorem dX11_rankOf_21 : decode cX11_rankOf 21 = .ok (.goto 4, 3) := by decide +kernel
theorem dX11_rankOf_24 : decode cX11_rankOf 24 = .ok (.iload_n 3, 1) := by decide +kernel
theorem dX11_rankOf_25 : decode cX11_rankOf 25 = .ok (.ior, 1) := by decide +kernel
theorem dX11_rankOf_26 : decode cX11_rankOf 26 = .ok (.ireturn, 1) := by decide +kernel
theorem dX11_triple_0 : decode cX11_triple 0 = .ok (.iload_n 0, 1) := by decide +kernel
theorem dX11_triple_1 : decode cX11_triple 1 = .ok (.iconst 4, 1) := by decide +kernel
theorem dX11_triple_2 : decode cX11_triple 2 = .ok (.ishr, 1) := by decide +kernel
theorem dX11_triple_3 : decode cX11_triple 3 = .ok (.ireturn, 1) := by decide +kernel
theorem dX11_hasPre_0 : decode cX11_hasPre 0 = .ok (.iload_n 0, 1) := by decide +kernel
theorem dX11_hasPre_1 : decode cX11_hasPre 1 = .ok (.bipush 15, 2) := by decide +kernel
theorem dX11_hasPre_3 : decode cX11_hasPre 3 = .ok (.iand, 1) := by decide +kernel
theorem dX11_hasPre_4 : decode cX11_hasPre 4 = .ok (.bipush 10, 2) := by decide +kernel
theorem dX11_hasPre_6 : decode cX11_hasPre 6 = .ok (.if_icmp .eq 7, 3) := by decide +kernel
theorem dX11_hasPre_9 : decode cX11_hasPre 9 = .ok (.iconst 1, 1) := by decide +kernel
theorem dX11_hasPre_10 : decode cX11_hasPre 10 = .ok (.goto 4, 3) := by decide +kernel
theorem dX11_hasPre_13 : decode cX11_hasPre 13 = .ok (.iconst 0, 1) := by decide +kernel
theorem dX11_hasPre_14 : decode cX11_hasPre 14 = .ok (.ireturn, 1) := by decide +kernel
theorem dX11_hasWholeVersion_0 : decode cX11_hasWholeVersion 0 = .ok (.iload_n 0, 1) := by decide +kernel
theorem dX11_hasWholeVersion_1 : decode cX11_hasWholeVersion 1 = .ok (.iconst 3, 1) := by decide +kernel
theorem dX11_hasWholeVersion_2 : decode cX11_hasWholeVersion 2 = .ok (.if_icmp .eq 19, 3) := by decide +kernel
theorem dX11_hasWholeVersion_5 : decode cX11_hasWholeVersion 5 = .ok (.iload_n 0, 1) := by decide +kernel
theorem dX11_hasWholeVersion_6 : decode cX11_hasWholeVersion 6 = .ok (.bipush 6, 2) := by decide +kernel
theorem dX11_hasWholeVersion_8 : decode cX11_hasWholeVersion 8 = .ok (.if_icmp .eq 13, 3) := by decide +kernel
theorem dX11_hasWholeVersion_11 : decode cX11_hasWholeVersion 11 = .ok (.iload_n 0, 1) := by decide +kernel
theorem dX11_hasWholeVersion_12 : decode cX11_hasWholeVersion 12 = .ok (.bipush 7, 2) := by decide +kernel
theorem dX11_hasWholeVersion_14 : decode cX11_hasWholeVersion 14 = .ok (.if_icmp .eq 7, 3) := by decide +kernel
theorem dX11_hasWholeVersion_17 : decode cX11_hasWholeVersion 17 = .ok (.iconst 1, 1) := by decide +kernel
theorem dX11_hasWholeVersion_18 : decode cX11_hasWholeVersion 18 = .ok (.goto 4, 3) := by decide +kernel
theorem dX11_hasWholeVersion_21 : decode cX11_hasWholeVersion 21 = .ok (.iconst 0, 1) := by decide +kernel
theorem dX11_hasWholeVersion_22 : decode cX11_hasWholeVersion 22 = .ok (.ireturn, 1) := by decide +kernel
theorem dX11_endOf_0 : decode cX11_endOf 0 = .ok (.iload_n 0, 1) := by decide +kernel
theorem dX11_endOf_1 : decode cX11_endOf 1 = .ok (.tableswitch 82 0 7 #[47, 82, 52, 82, 55, 62, 72, 62], 47) := by decide +kernel
theorem dX11_endOf_48 : decode cX11_endOf 48 = .ok (.iload 4, 2) := by decide +kernel
theorem dX11_endOf_50 : decode cX11_endOf 50 = .ok (.iconst 1, 1) := by decide +kernel
theorem dX11_endOf_51 : decode cX11_endOf 51 = .ok (.iadd, 1) := by decide +kernel
theorem dX11_endOf_52 : decode cX11_endOf 52 = .ok (.ireturn, 1) := by decide +kernel
theorem dX11_endOf_53 : decode cX11_endOf 53 = .ok (.iload 4, 2) := by decide +kernel
theorem dX11_endOf_55 : decode cX11_endOf 55 = .ok (.ireturn, 1) := by decide +kernel
theorem dX11_endOf_56 : decode cX11_endOf 56 = .ok (.iload_n 1, 1) := by decide +kernel
theorem dX11_endOf_57 : decode cX11_endOf 57 = .ok (.iload_n 2, 1) := by decide +kernel
theorem dX11_endOf_58 : decode cX11_endOf 58 = .ok (.iload_n 3, 1) := by decide +kernel
theorem dX11_endOf_59 : decode cX11_endOf 59 = .ok (.invokestatic 317, 3) := by decide +kernel
theorem dX11_endOf_62 : decode cX11_endOf 62 = .ok (.ireturn, 1) := by decide +kernel
theorem dX11_endOf_63 : decode cX11_endOf 63 = .ok (.iload_n 1, 1) := by decide +kernel
theorem dX11_endOf_64 : decode cX11_endOf 64 = .ok (.iload_n 2, 1) := by decide +kernel
theorem dX11_endOf_65 : decode cX11_endOf 65 = .ok (.iconst 1, 1) := by decide +kernel
theorem dX11_endOf_66 : decode cX11_endOf 66 = .ok (.iadd, 1) := by decide +kernel
theorem dX11_endOf_67 : decode cX11_endOf 67 = .ok (.iconst 0, 1) := by decide +kernel
theorem dX11_endOf_68 : decode cX11_endOf 68 = .ok (.iconst 0, 1) := by decide +kernel
theorem dX11_endOf_69 : decode cX11_endOf 69 = .ok (.invokestatic 71, 3) := by decide +kernel
theorem dX11_endOf_72 : decode cX11_endOf 72 = .ok (.ireturn, 1) := by decide +kernel
theorem dX11_endOf_73 : decode cX11_endOf 73 = .ok (.iload_n 1, 1) := by decide +kernel
theorem dX11_endOf_74 : decode cX11_endOf 74 = .ok (.iconst 1, 1) := by decide +kernel
theorem dX11_endOf_75 : decode cX11_endOf 75 = .ok (.iadd, 1) := by decide +kernel
theorem dX11_endOf_76 : decode cX11_endOf 76 = .ok (.iconst 0, 1) := by decide +kernel
theorem dX11_endOf_77 : decode cX11_endOf 77 = .ok (.iconst 0, 1) := by decide +kernel
theorem dX11_endOf_78 : decode cX11_endOf 78 = .ok (.iconst 0, 1) := by decide +kernel
theorem dX11_endOf_79 : decode cX11_endOf 79 = .ok (.invokestatic 71, 3) := by decide +kernel
theorem dX11_endOf_82 : decode cX11_endOf 82 = .ok (.ireturn, 1) := by decide +kernel
theorem dX11_endOf_83 : decode cX11_endOf 83 = .ok (.ldc_w 320, 3) := by decide +kernel
theorem dX11_endOf_86 : decode cX11_endOf 86 = .ok (.ireturn, 1) := by decide +kernel
theorem dX11_endOfCompatible_0 : decode cX11_endOfCompatible 0 = .ok (.iload_n 0, 1) := by decide +kernel
theorem dX11_endOfCompatible_1 : decode cX11_endOfCompatible 1 = .ok (.ifCond .le 13, 3) := by decide +kernel
theorem dX11_endOfCompatible_4 : decode cX11_endOfCompatible 4 = .ok (.iload_n 0, 1) := by decide +kernel
theorem dX11_endOfCompatible_5 : decode cX11_endOfCompatible 5 = .ok (.iconst 1, 1) := by decide +kernel
theorem dX11_endOfCompatible_6 : decode cX11_endOfCompatible 6 = .ok (.iadd, 1) := by decide +kernel
theorem dX11_endOfCompatible_7 : decode cX11_endOfCompatible 7 = .ok (.iconst 0, 1) := by decide +kernel
theorem dX11_endOfCompatible_8 : decode cX11_endOfCompatible 8 = .ok (.iconst 0, 1) := by decide +kernel
theorem dX11_endOfCompatible_9 : decode cX11_endOfCompatible 9 = .ok (.iconst 0, 1) := by decide +kernel
theorem dX11_endOfCompatible_10 : decode cX11_endOfCompatible 10 = .ok (.invokestatic 71, 3) := by decide +kernel
theorem dX11_endOfCompatible_13 : decode cX11_endOfCompatible 13 = .ok (.ireturn, 1) := by decide +kernel
theorem dX11_endOfCompatible_14 : decode cX11_endOfCompatible 14 = .ok (.iload_n 1, 1) := by decide +kernel
theorem dX11_endOfCompatible_15 : decode cX11_endOfCompatible 15 = .ok (.ifCond .le 15, 3) := by decide +kernel
theorem dX11_endOfCompatible_18 : decode cX11_endOfCompatible 18 = .ok (.iconst 0, 1) := by decide +kernel
theorem dX11_endOfCompatible_19 : decode cX11_endOfCompatible 19 = .ok (.iload_n 1, 1) := by decide +kernel
theorem dX11_endOfCompatible_20 : decode cX11_endOfCompatible 20 = .ok (.iconst 1, 1) := by decide +kernel
theorem dX11_endOfCompatible_21 : decode cX11_endOfCompatible 21 = .ok (.iadd, 1) := by decide +kernel
theorem dX11_endOfCompatible_22 : decode cX11_endOfCompatible 22 = .ok (.iconst 0, 1) := by decide +kernel
theorem dX11_endOfCompatible_23 : decode cX11_endOfCompatible 23 = .ok (.iconst 0, 1) := by decide +kernel
theorem dX11_endOfCompatible_24 : decode cX11_endOfCompatible 24 = .ok (.invokestatic 71, 3) := by decide +kernel
theorem dX11_endOfCompatible_27 : decode cX11_endOfCompatible 27 = .ok (.goto 12, 3) := by decide +kernel
theorem dX11_endOfCompatible_30 : decode cX11_endOfCompatible 30 = .ok (.iconst 0, 1) := by decide +kernel
theorem dX11_endOfCompatible_31 : decode cX11_endOfCompatible 31 = .ok (.iconst 0, 1) := by decide +kernel
theorem dX11_endOfCompatible_32 : decode cX11_endOfCompatible 32 = .ok (.iload_n 2, 1) := by decide +kernel
theorem dX11_endOfCompatible_33 : decode cX11_endOfCompatible 33 = .ok (.iconst 1, 1) := by decide +kernel
theorem dX11_endOfCompatible_34 : decode cX11_endOfCompatible 34 = .ok (.iadd, 1) := by decide +kernel
theorem dX11_endOfCompatible_35 : decode cX11_endOfCompatible 35 = .ok (.iconst 0, 1) := by decide +kernel
theorem dX11_endOfCompatible_36 : decode cX11_endOfCompatible 36 = .ok (.invokestatic 71, 3) := by decide +kernel
theorem dX11_endOfCompatible_39 : decode cX11_endOfCompatible 39 = .ok (.ireturn, 1) := by decide +kernel
end
section
theorem dX12_init_0 : decode cX12_init 0 = .ok (.aload_n 0, 1) := by decide +kernel
theorem dX12_init_1 : decode cX12_init 1 = .ok (.invokespecial 1, 3) := by decide +kernel
theorem dX12_init_4 : decode cX12_init 4 = .ok (.aload_n 0, 1) := by decide +kernel
theorem dX12_init_5 : decode cX12_init 5 = .ok (.sipush 216, 3) := by decide +kernel
theorem dX12_init_8 : decode cX12_init 8 = .ok (.newarray .int, 2) := by decide +kernel
theorem dX12_init_10 : decode cX12_init 10 = .ok (.putfield 7, 3) := by decide +kernel
theorem dX12_init_13 : decode cX12_init 13 = .ok (.aload_n 0, 1) := by decide +kernel
theorem dX12_init_14 : decode cX12_init 14 = .ok (.bipush 72, 2) := by decide +kernel
theorem dX12_init_16 : decode cX12_init 16 = .ok (.newarray .int, 2) := by decide +kernel
theorem dX12_init_18 : decode cX12_init 18 = .ok (.putfield 13, 3) := by decide +kernel
theorem dX12_init_21 : decode cX12_init 21 = .ok (.aload_n 0, 1) := by decide +kernel
theorem dX12_init_22 : decode cX12_init 22 = .ok (.sipush 720, 3) := by decide +kernel
theorem dX12_init_25 : decode cX12_init 25 = .ok (.newarray .int, 2) := by decide +kernel
theorem dX12_init_27 : decode cX12_init 27 = .ok (.putfield 16, 3) := by decide +kernel
theorem dX12_init_30 : decode cX12_init 30 = .ok (.aload_n 0, 1) := by decide +kernel
theorem dX12_init_31 : decode cX12_init 31 = .ok (.sipush 150, 3) := by decide +kernel
theorem dX12_init_34 : decode cX12_init 34 = .ok (.newarray .int, 2) := by decide +kernel
theorem dX12_init_36 : decode cX12_init 36 = .ok (.putfield 19, 3) := by decide +kernel
theorem dX12_init_39 : decode cX12_init 39 = .ok (.aload_n 0, 1) := by decide +kernel
theorem dX12_init_40 : decode cX12_init 40 = .ok (.sipush 720, 3) := by decide +kernel
theorem dX12_init_43 : decode cX12_init 43 = .ok (.newarray .boolean, 2) := by decide +kernel
theorem dX12_init_45 : decode cX12_init 45 = .ok (.putfield 22, 3) := by decide +kernel
theorem dX12_init_48 : decode cX12_init 48 = .ok (.aload_n 0, 1) := by decide +kernel
theorem dX12_init_49 : decode cX12_init 49 = .ok (.bipush 24, 2) := by decide +kernel
theorem dX12_init_51 : decode cX12_init 51 = .ok (.newarray .int, 2) := by decide +kernel
theorem dX12_init_53 : decode cX12_init 53 = .ok (.putfield 26, 3) := by decide +kernel
theorem dX12_init_56 : decode cX12_init 56 = .ok (.aload_n 0, 1) := by decide +kernel
theorem dX12_init_57 : decode cX12_init 57 = .ok (.bipush 16, 2) := by decide +kernel
theorem dX12_init_59 : decode cX12_init 59 = .ok (.newarray .int, 2) := by decide +kernel
theorem dX12_init_61 : decode cX12_init 61 = .ok (.putfield 29, 3) := by decide +kernel
theorem dX12_init_64 : decode cX12_init 64 = .ok (.aload_n 0, 1) := by decide +kernel
theorem dX12_init_65 : decode cX12_init 65 = .ok (.bipush 6, 2) := by decide +kernel
theorem dX12_init_67 : decode cX12_init 67 = .ok (.newarray .int, 2) := by decide +kernel
theorem dX12_init_69 : decode cX12_init 69 = .ok (.dup, 1) := by decide +kernel
theorem dX12_init_70 : decode cX12_init 70 = .ok (.iconst 0, 1) := by decide +kernel
theorem dX12_init_71 : decode cX12_init 71 = .ok (.iconst (-1), 1) := by decide +kernel
theorem dX12_init_72 : decode cX12_init 72 = .ok (.iastore, 1) := by decide +kernel
theorem dX12_init_73 : decode cX12_init 73 = .ok (.dup, 1) := by decide +kernel
theorem dX12_init_74 : decode cX12_init 74 = .ok (.iconst 1, 1) := by decide +kernel
theorem dX12_init_75 : decode cX12_init 75 = .ok (.iconst (-1), 1) := by decide +kernel
theorem dX12_init_76 : decode cX12_init 76 = .ok (.iastore, 1) := by decide +kernel
theorem dX12_init_77 : decode cX12_init 77 = .ok (.dup, 1) := by decide +kernel
theorem dX12_init_78 : decode cX12_init 78 = .ok (.iconst 2, 1) := by decide +kernel
theorem dX12_init_79 : decode cX12_init 79 = .ok (.iconst (-1), 1) := by decide +kernel
theorem dX12_init_80 : decode cX12_init 80 = .ok (.iastore, 1) := by decide +kernel
theorem dX12_init_81 : decode cX12_init 81 = .ok (.dup, 1) := by decide +kernel
theorem dX12_init_82 : decode cX12_init 82 = .ok (.iconst 3, 1) := by decide +kernel
theorem dX12_init_83 : decode cX12_init 83 = .ok (.iconst (-1), 1) := by decide +kernel
theorem dX12_init_84 : decode cX12_init 84 = .ok (.iastore, 1) := by decide +kernel
theorem dX12_init_85 : decode cX12_init 85 = .ok (.dup, 1) := by decide +kernel
theorem dX12_init_86 : decode cX12_init 86 = .ok (.iconst 4, 1) := by decide +kernel
theorem dX12_init_87 : decode cX12_init 87 = .ok (.iconst (-1), 1) := by decide +kernel
theorem dX12_init_88 : decode cX12_init 88 = .ok (.iastore, 1) := by decide +kernel
theorem dX12_init_89 : decode cX12_init 89 = .ok (.dup, 1) := by decide +kernel
theorem dX12_init_90 : decode cX12_init 90 = .ok (.iconst 5, 1) := by decide +kernel
theorem dX12_init_91 : decode cX12_init 91 = .ok (.iconst (-1), 1) := by decide +kernel
theorem dX12_init_92 : decode cX12_init 92 = .ok (.iastore, 1) := by decide +kernel
theorem dX12_init_93 : decode cX12_init 93 = .ok (.putfield 32, 3) := by decide +kernel
theorem dX12_init_96 : decode cX12_init 96 = .ok (.aload_n 0, 1) := by decide +kernel
theorem dX12_init_97 : decode cX12_init 97 = .ok (.bipush 6, 2) := by decide +kernel
theorem dX12_init_99 : decode cX12_init 99 = .ok (.newarray .int, 2) := by decide +kernel
theorem dX12_init_101 : decode cX12_init 101 = .ok (.dup, 1) := by decide +kernel
theorem dX12_init_102 : decode cX12_init 102 = .ok (.iconst 0, 1) := by decide +kernel
theorem dX12_init_103 : decode cX12_init 103 = .ok (.iconst (-1), 1) := by decide +kernel
theorem dX12_init_104 : decode cX12_init 104 = .ok (.iastore, 1) := by decide +kernel
theorem dX12_init_105 : decode cX12_init 105 = .ok (.dup, 1) := by decide +kernel
theorem dX12_init_106 : decode cX12_init 106 = .ok (.iconst 1, 1) := by decide +kernel
theorem dX12_init_107 : decode cX12_init 107 = .ok (.iconst (-1), 1) := by decide +kernel
theorem dX12_init_108 : decode cX12_init 108 = .ok (.iastore, 1) := by decide +kernel
theorem dX12_init_109 : decode cX12_init 109 = .ok (.dup, 1) := by decide +kernel
theorem dX12_init_110 : decode cX12_init 110 = .ok (.iconst 2, 1) := by decide +kernel
theorem dX12_init_111 : decode cX12_init 111 = .ok (.iconst (-1), 1) := by decide +kernel
theorem dX12_init_112 : decode cX12_init 112 = .ok (.iastore, 1) := by decide +kernel
theorem dX12_init_113 : decode cX12_init 113 = .ok (.dup, 1) := by decide +kernel
theorem dX12_init_114 : decode cX12_init 114 = .ok (.iconst 3, 1) := by decide +kernel
theorem dX12_init_115 : decode cX12_init 115 = .ok (.iconst (-1), 1) := by decide +kernel
theorem dX12_init_116 : decode cX12_init 116 = .ok (.iastore, 1) := by decide +kernel
theorem dX12_init_117 : decode cX12_init 117 = .ok (.dup, 1) := by decide +kernel
theorem dX12_init_118 : decode cX12_init 118 = .ok (.iconst 4, 1) := by decide +kernel
theorem dX12_init_119 : decode cX12_init 119 = .ok (.iconst (-1), 1) := by decide +kernel
theorem dX12_init_120 : decode cX12_init 120 = .ok (.iastore, 1) := by decide +kernel
theorem dX12_init_121 : decode cX12_init 121 = .ok (.dup, 1) := by decide +kernel
theorem dX12_init_122 : decode cX12_init 122 = .ok (.iconst 5, 1) := by decide +kernel
theorem dX12_init_123 : decode cX12_init 123 = .ok (.iconst (-1), 1) := by decide +kernel
theorem dX12_init_124 : decode cX12_init 124 = .ok (.iastore, 1) := by decide +kernel
theorem dX12_init_125 : decode cX12_init 125 = .ok (.putfield 35, 3) := by decide +kernel
theorem dX12_init_128 : decode cX12_init 128 = .ok (.aload_n 0, 1) := by decide +kernel
theorem dX12_init_129 : decode cX12_init 129 = .ok (.bipush 6, 2) := by decide +kernel
theorem dX12_init_131 : decode cX12_init 131 = .ok (.newarray .int, 2) := by decide +kernel
theorem dX12_init_133 : decode cX12_init 133 = .ok (.dup, 1) := by decide +kernel
theorem dX12_init_134 : decode cX12_init 134 = .ok (.iconst 0, 1) := by decide +kernel
theorem dX12_init_135 : decode cX12_init 135 = .ok (.iconst (-1), 1) := by decide +kernel
theorem dX12_init_136 : decode cX12_init 136 = .ok (.iastore, 1) := by decide +kernel
theorem dX12_init_137 : decode cX12_init 137 = .ok (.dup, 1) := by decide +kernel
theorem dX12_init_138 : decode cX12_init 138 = .ok (.iconst 1, 1) := by decide +kernel
theorem dX12_init_139 : decode cX12_init 139 = .ok (.iconst (-1), 1) := by decide +kernel
theorem dX12_init_140 : decode cX12_init 140 = .ok (.iastore, 1) := by decide +kernel
theorem dX12_init_141 : decode cX12_init 141 = .ok (.dup, 1) := by decide +kernel
theorem dX12_init_142 : decode cX12_init 142 = .ok (.iconst 2, 1) := by decide +kernel
theorem dX12_init_143 : decode cX12_init 143 = .ok (.iconst (-1), 1) := by decide +kernel
theorem dX12_init_144 : decode cX12_init 144 = .ok (.iastore, 1) := by decide +kernel
theorem dX12_init_145 : decode cX12_init 145 = .ok (.dup, 1) := by decide +kernel
theorem dX12_init_146 : decode cX12_init 146 = .ok (.iconst 3, 1) := by decide +kernel
theorem dX12_init_147 : decode cX12_init 147 = .ok (.iconst (-1), 1) := by decide +kernel
theorem dX12_init_148 : decode cX12_init 148 = .ok (.iastore, 1) := by decide +kernel
theorem dX12_init_149 : decode cX12_init 149 = .ok (.dup, 1) := by decide +kernel
theorem dX12_init_150 : decode cX12_init 150 = .ok (.iconst 4, 1) := by decide +kernel
theorem dX12_init_151 : decode cX12_init 151 = .ok (.iconst (-1), 1) := by decide +kernel
theorem dX12_init_152 : decode cX12_init 152 = .ok (.iastore, 1) := by decide +kernel
theorem dX12_init_153 : decode cX12_init 153 = .ok (.dup, 1) := by decide +kernel
theorem dX12_init_154 : decode cX12_init 154 = .ok (.iconst 5, 1) := by decide +kernel
theorem dX12_init_155 : decode cX12_init 155 = .ok (.iconst (-1), 1) := by decide +kernel
theorem dX12_init_156 : decode cX12_init 156 = .ok (.iastore, 1) := by decide +kernel
theorem dX12_init_157 : decode cX12_init 157 = .ok (.putfield 38, 3) := by decide +kernel
theorem dX12_init_160 : decode cX12_init 160 = .ok (.aload_n 0, 1) := by decide +kernel
theorem dX12_init_161 : decode cX12_init 161 = .ok (.bipush 6, 2) := by decide +kernel
theorem dX12_init_163 : decode cX12_init 163 = .ok (.newarray .int, 2) := by decide +kernel
theorem dX12_init_165 : decode cX12_init 165 = .ok (.putfield 41, 3) := by decide +kernel
theorem dX12_init_168 : decode cX12_init 168 = .ok (.aload_n 0, 1) := by decide +kernel
theorem dX12_init_169 : decode cX12_init 169 = .ok (.bipush 6, 2) := by decide +kernel
theorem dX12_init_171 : decode cX12_init 171 = .ok (.newarray .int, 2) := by decide +kernel
theorem dX12_init_173 : decode cX12_init 173 = .ok (.putfield 44, 3) := by decide +kernel
theorem dX12_init_176 : decode cX12_init 176 = .ok (.aload_n 0, 1) := by decide +kernel
theorem dX12_init_177 : decode cX12_init 177 = .ok (.bipush 6, 2) := by decide +kernel
theorem dX12_init_179 : decode cX12_init 179 = .ok (.newarray .int, 2) := by decide +kernel
theorem dX12_init_181 : decode cX12_init 181 = .ok (.putfield 47, 3) := by decide +kernel
theorem dX12_init_184 : decode cX12_init 184 = .ok (.aload_n 0, 1) := by decide +kernel
theorem dX12_init_185 : decode cX12_init 185 = .ok (.bipush 6, 2) := by decide +kernel
theorem dX12_init_187 : decode cX12_init 187 = .ok (.newarray .boolean, 2) := by decide +kernel
theorem dX12_init_189 : decode cX12_init 189 = .ok (.putfield 50, 3) := by decide +kernel
theorem dX12_init_192 : decode cX12_init 192 = .ok (.aload_n 0, 1) := by decide +kernel
theorem dX12_init_193 : decode cX12_init 193 = .ok (.bipush 30, 2) := by decide +kernel
theorem dX12_init_195 : decode cX12_init 195 = .ok (.newarray .int, 2) := by decide +kernel
theorem dX12_init_197 : decode cX12_init 197 = .ok (.putfield 53, 3) := by decide +kernel
theorem dX12_init_200 : decode cX12_init 200 = .ok (.aload_n 0, 1) := by decide +kernel
theorem dX12_init_201 : decode cX12_init 201 = .ok (.bipush 6, 2) := by decide +kernel
theorem dX12_init_203 : decode cX12_init 203 = .ok (.newarray .int, 2) := by decide +kernel
theorem dX12_init_205 : decode cX12_init 205 = .ok (.putfield 56, 3) := by decide +kernel
theorem dX12_init_208 : decode cX12_init 208 = .ok (.aload_n 0, 1) := by decide +kernel
theorem dX12_init_209 : decode cX12_init 209 = .ok (.bipush 6, 2) := by decide +kernel
theorem dX12_init_211 : decode cX12_init 211 = .ok (.newarray .int, 2) := by decide +kernel
theorem dX12_init_213 : decode cX12_init 213 = .ok (.putfield 59, 3) := by decide +kernel
theorem dX12_init_216 : decode cX12_init 216 = .ok (.aload_n 0, 1) := by decide +kernel
theorem dX12_init_217 : decode cX12_init 217 = .ok (.iconst (-1), 1) := by decide +kernel
theorem dX12_init_218 : decode cX12_init 218 = .ok (.putfield 62, 3) := by decide +kernel
theorem dX12_init_221 : decode cX12_init 221 = .ok (.aload_n 0, 1) := by decide +kernel
theorem dX12_init_222 : decode cX12_init 222 = .ok (.bipush 6, 2) := by decide +kernel
theorem dX12_init_224 : decode cX12_init 224 = .ok (.newarray .int, 2) := by decide +kernel
theorem dX12_init_226 : decode cX12_init 226 = .ok (.putfield 66, 3) := by decide +kernel
theorem dX12_init_229 : decode cX12_init 229 = .ok (.aload_n 0, 1) := by decide +kernel
theorem dX12_init_230 : decode cX12_init 230 = .ok (.bipush 6, 2) := by decide +kernel
theorem dX12_init_232 : decode cX12_init 232 = .ok (.newarray .int, 2) := by decide +kernel
theorem dX12_init_234 : decode cX12_init 234 = .ok (.putfield 69, 3) := by decide +kernel
theorem dX12_init_237 : decode cX12_init 237 = .ok (.return_, 1) := by decide +kernel
theorem dX12_thrown_0 : decode cX12_thrown 0 = .ok (.aload_n 0, 1) := by decide +kernel
theorem dX12_thrown_1 : decode cX12_thrown 1 = .ok (.getfield 72, 3) := by decide +kernel
theorem dX12_thrown_4 : decode cX12_thrown 4 = .ok (.ireturn, 1) := by decide +kernel
theorem dX12_goesWell_0 : decode cX12_goesWell 0 = .ok (.aload_n 0, 1) := by decide +kernel
theorem dX12_goesWell_1 : decode cX12_goesWell 1 = .ok (.iload_n 1, 1) := by decide +kernel
theorem dX12_goesWell_2 : decode cX12_goesWell 2 = .ok (.putfield 72, 3) := by decide +kernel
theorem dX12_goesWell_5 : decode cX12_goesWell 5 = .ok (.iload_n 1, 1) := by decide +kernel
theorem dX12_goesWell_6 : decode cX12_goesWell 6 = .ok (.ifCond .ne 7, 3) := by decide +kernel
theorem dX12_goesWell_9 : decode cX12_goesWell 9 = .ok (.iconst 1, 1) := by decide +kernel
theorem dX12_goesWell_10 : decode cX12_goesWell 10 = .ok (.goto 4, 3) := by decide +kernel
theorem dX12_goesWell_13 : decode cX12_goesWell 13 = .ok (.iconst 0, 1) := by decide +kernel
theorem dX12_goesWell_14 : decode cX12_goesWell 14 = .ok (.ireturn, 1) := by decide +kernel
theorem dX12_in_0 : decode cX12_in 0 = .ok (.iload_n 0, 1) := by decide +kernel
theorem dX12_in_1 : decode cX12_in 1 = .ok (.iload_n 1, 1) := by decide +kernel
theorem dX12_in_2 : decode cX12_in 2 = .ok (.if_icmp .lt 12, 3) := by decide +kernel
theorem dX12_in_5 : decode cX12_in 5 = .ok (.iload_n 0, 1) := by decide +kernel
theorem dX12_in_6 : decode cX12_in 6 = .ok (.iload_n 2, 1) := by decide +kernel
theorem dX12_in_7 : decode cX12_in 7 = .ok (.if_icmp .gt 7, 3) := by decide +kernel
theorem dX12_in_10 : decode cX12_in 10 = .ok (.iconst 1, 1) := by decide +kernel
theorem dX12_in_11 : decode cX12_in 11 = .ok (.goto 4, 3) := by decide +kernel
theorem dX12_in_14 : decode cX12_in 14 = .ok (.iconst 0, 1) := by decide +kernel
theorem dX12_in_15 : decode cX12_in 15 = .ok (.ireturn, 1) := by decide +kernel
theorem dX12_isPackage_0 : decode cX12_isPackage 0 = .ok (.iload_n 0, 1) := by decide +kernel
theorem dX12_isPackage_1 : decode cX12_isPackage 1 = .ok (.iconst 0, 1) := by decide +kernel
theorem dX12_isPackage_2 : decode cX12_isPackage 2 = .ok (.iconst 5, 1) := by decide +kernel
theorem dX12_isPackage_3 : decode cX12_isPackage 3 = .ok (.invokestatic 75, 3) := by decide +kernel
theorem dX12_isPackage_6 : decode cX12_isPackage 6 = .ok (.ireturn, 1) := by decide +kernel
theorem dX12_isVersion_0 : decode cX12_isVersion 0 = .ok (.iload_n 1, 1) := by decide +kernel
theorem dX12_isVersion_1 : decode cX12_isVersion 1 = .ok (.iconst 0, 1) := by decide +kernel
theorem dX12_isVersion_2 : decode cX12_isVersion 2 = .ok (.aload_n 0, 1) := by decide +kernel
theorem dX12_isVersion_3 : decode cX12_isVersion 3 = .ok (.getfield 79, 3) := by decide +kernel
theorem dX12_isVersion_6 : decode cX12_isVersion 6 = .ok (.iconst 1, 1) := by decide +kernel
theorem dX12_isVersion_7 : decode cX12_isVersion 7 = .ok (.isub, 1) := by decide +kernel
theorem dX12_isVersion_8 : decode cX12_isVersion 8 = .ok (.invokestatic 75, 3) := by decide +kernel
theorem dX12_isVersion_11 : decode cX12_isVersion 11 = .ok (.ireturn, 1) := by decide +kernel
theorem dX12_isRange_0 : decode cX12_isRange 0 = .ok (.iload_n 1, 1) := by decide +kernel
theorem dX12_isRange_1 : decode cX12_isRange 1 = .ok (.iconst 0, 1) := by decide +kernel
theorem dX12_isRange_2 : decode cX12_isRange 2 = .ok (.aload_n 0, 1) := by decide +kernel
theorem dX12_isRange_3 : decode cX12_isRange 3 = .ok (.getfield 82, 3) := by decide +kernel
theorem dX12_isRange_6 : decode cX12_isRange 6 = .ok (.iconst 1, 1) := by decide +kernel
theorem dX12_isRange_7 : decode cX12_isRange 7 = .ok (.isub, 1) := by decide +kernel
theorem dX12_isRange_8 : decode cX12_isRange 8 = .ok (.invokestatic 75, 3) := by decide +kernel
theorem dX12_isRange_11 : decode cX12_isRange 11 = .ok (.ireturn, 1) := by decide +kernel
theorem dX12_packageOf_0 : decode cX12_packageOf 0 = .ok (.aload_n 0, 1) := by decide +kernel
theorem dX12_packageOf_1 : decode cX12_packageOf 1 = .ok (.getfield 7, 3) := by decide +kernel
theorem dX12_packageOf_4 : decode cX12_packageOf 4 = .ok (.bipush 9, 2) := by decide +kernel
theorem dX12_packageOf_6 : decode cX12_packageOf 6 = .ok (.iload_n 1, 1) := by decide +kernel
theorem dX12_packageOf_7 : decode cX12_packageOf 7 = .ok (.imul, 1) := by decide +kernel
theorem dX12_packageOf_8 : decode cX12_packageOf 8 = .ok (.iaload, 1) := by decide +kernel
theorem dX12_packageOf_9 : decode cX12_packageOf 9 = .ok (.ireturn, 1) := by decide +kernel
theorem dX12_compareTo_0 : decode cX12_compareTo 0 = .ok (.bipush 9, 2) := by decide +kernel
theorem dX12_compareTo_2 : decode cX12_compareTo 2 = .ok (.iload_n 1, 1) := by decide +kernel
theorem dX12_compareTo_3 : decode cX12_compareTo 3 = .ok (.imul, 1) := by decide +kernel
theorem dX12_compareTo_4 : decode cX12_compareTo 4 = .ok (.istore 6, 2) := by decide +kernel
theorem dX12_compareTo_6 : decode cX12_compareTo 6 = .ok (.aload_n 0, 1) := by decide +kernel
theorem dX12_compareTo_7 : decode cX12_compareTo 7 = .ok (.getfield 7, 3) := by decide +kernel
theorem dX12_compareTo_10 : decode cX12_compareTo 10 = .ok (.iload 6, 2) := by decide +kernel
theorem dX12_compareTo_12 : decode cX12_compareTo 12 = .ok (.iconst 1, 1) := by decide +kernel
theorem dX12_compareTo_13 : decode cX12_compareTo 13 = .ok (.iadd, 1) := by decide +kernel
theorem dX12_compareTo_14 : decode cX12_compareTo 14 = .ok (.iaload, 1) := by decide +kernel
theorem dX12_compareTo_15 : decode cX12_compareTo 15 = .ok (.iload_n 2, 1) := by decide +kernel
theorem dX12_compareTo_16 : decode cX12_compareTo 16 = .ok (.if_icmp .eq 17, 3) := by decide +kernel
theorem dX12_compareTo_19 : decode cX12_compareTo 19 = .ok (.aload_n 0, 1) := by decide +kernel
theorem dX12_compareTo_20 : decode cX12_compareTo 20 = .ok (.getfield 7, 3) := by decide +kernel
theorem dX12_compareTo_23 : decode cX12_compareTo 23 = .ok (.iload 6, 2) := by decide +kernel
theorem dX12_compareTo_25 : decode cX12_compareTo 25 = .ok (.iconst 1, 1) := by decide +kernel
theorem dX12_compareTo_26 : decode cX12_compareTo 26 = .ok (.iadd, 1) := by decide +kernel
theorem dX12_compareTo_27 : decode cX12_compareTo 27 = .ok (.iaload, 1) := by decide +kernel
theorem dX12_compareTo_28 : decode cX12_compareTo 28 = .ok (.iload_n 2, 1) := by decide +kernel
theorem dX12_compareTo_29 : decode cX12_compareTo 29 = .ok (.isub, 1) := by decide +kernel
theorem dX12_compareTo_30 : decode cX12_compareTo 30 = .ok (.goto 42, 3) := by decide +kernel
theorem dX12_compareTo_33 : decode cX12_compareTo 33 = .ok (.aload_n 0, 1) := by decide +kernel
theorem dX12_compareTo_34 : decode cX12_compareTo 34 = .ok (.getfield 7, 3) := by decide +kernel
theorem dX12_compareTo_37 : decode cX12_compareTo 37 = .ok (.iload 6, 2) := by decide +kernel
theorem dX12_compareTo_39 : decode cX12_compareTo 39 = .ok (.iconst 2, 1) := by decide +kernel
theorem dX12_compareTo_40 : decode cX12_compareTo 40 = .ok (.iadd, 1) := by decide +kernel
theorem dX12_compareTo_41 : decode cX12_compareTo 41 = .ok (.iaload, 1) := by decide +kernel
theorem dX12_compareTo_42 : decode cX12_compareTo 42 = .ok (.iload_n 3, 1) := by decide +kernel
theorem dX12_compareTo_43 : decode cX12_compareTo 43 = .ok (.if_icmp .eq 17, 3) := by decide +kernel
theorem dX12_compareTo_46 : decode cX12_compareTo 46 = .ok (.aload_n 0, 1) := by decide +kernel
theorem dX12_compareTo_47 : decode cX12_compareTo 47 = .ok (.getfield 7, 3) := by decide +kernel
theorem dX12_compareTo_50 : decode cX12_compareTo 50 = .ok (.iload 6, 2) := by decide +kernel
theorem dX12_compareTo_52 : decode cX12_compareTo 52 = .ok (.iconst 2, 1) := by decide +kernel
theorem dX12_compareTo_53 : decode cX12_compareTo 53 = .ok (.iadd, 1) := by decide +kernel
theorem dX12_compareTo_54 : decode cX12_compareTo 54 = .ok (.iaload, 1) := by decide +kernel
theorem dX12_compareTo_55 : decode cX12_compareTo 55 = .ok (.iload_n 3, 1) := by decide +kernel
theorem dX12_compareTo_56 : decode cX12_compareTo 56 = .ok (.isub, 1) := by decide +kernel
theorem dX12_compareTo_57 : decode cX12_compareTo 57 = .ok (.goto 15, 3) := by decide +kernel
theorem dX12_compareTo_60 : decode cX12_compareTo 60 = .ok (.aload_n 0, 1) := by decide +kernel
theorem dX12_compareTo_61 : decode cX12_compareTo 61 = .ok (.getfield 7, 3) := by decide +kernel
theorem dX12_compareTo_64 : decode cX12_compareTo 64 = .ok (.iload 6, 2) := by decide +kernel
theorem dX12_compareTo_66 : decode cX12_compareTo 66 = .ok (.iconst 3, 1) := by decide +kernel
theorem dX12_compareTo_67 : decode cX12_compareTo 67 = .ok (.iadd, 1) := by decide +kernel
theorem dX12_compareTo_68 : decode cX12_compareTo 68 = .ok (.iaload, 1) := by decide +kernel
theorem dX12_compareTo_69 : decode cX12_compareTo 69 = .ok (.iload 4, 2) := by decide +kernel
theorem dX12_compareTo_71 : decode cX12_compareTo 71 = .ok (.isub, 1) := by decide +kernel
theorem dX12_compareTo_72 : decode cX12_compareTo 72 = .ok (.istore 7, 2) := by decide +kernel
theorem dX12_compareTo_74 : decode cX12_compareTo 74 = .ok (.iload 7, 2) := by decide +kernel
theorem dX12_compareTo_76 : decode cX12_compareTo 76 = .ok (.ifCond .ne 17, 3) := by decide +kernel
theorem dX12_compareTo_79 : decode cX12_compareTo 79 = .ok (.aload_n 0, 1) := by decide +kernel
theorem dX12_compareTo_80 : decode cX12_compareTo 80 = .ok (.getfield 7, 3) := by decide +kernel
theorem dX12_compareTo_83 : decode cX12_compareTo 83 = .ok (.iload 6, 2) := by decide +kernel
theorem dX12_compareTo_85 : decode cX12_compareTo 85 = .ok (.iconst 4, 1) := by decide +kernel
theorem dX12_compareTo_86 : decode cX12_compareTo 86 = .ok (.iadd, 1) := by decide +kernel
theorem dX12_compareTo_87 : decode cX12_compareTo 87 = .ok (.iaload, 1) := by decide +kernel
theorem dX12_compareTo_88 : decode cX12_compareTo 88 = .ok (.iload 5, 2) := by decide +kernel
theorem dX12_compareTo_90 : decode cX12_compareTo 90 = .ok (.if_icmp .ne 6, 3) := by decide +kernel
theorem dX12_compareTo_93 : decode cX12_compareTo 93 = .ok (.iload 7, 2) := by decide +kernel
theorem dX12_compareTo_95 : decode cX12_compareTo 95 = .ok (.ireturn, 1) := by decide +kernel
theorem dX12_compareTo_96 : decode cX12_compareTo 96 = .ok (.aload_n 0, 1) := by decide +kernel
theorem dX12_compareTo_97 : decode cX12_compareTo 97 = .ok (.getfield 7, 3) := by decide +kernel
theorem dX12_compareTo_100 : decode cX12_compareTo 100 = .ok (.iload 6, 2) := by decide +kernel
theorem dX12_compareTo_102 : decode cX12_compareTo 102 = .ok (.iconst 4, 1) := by decide +kernel
theorem dX12_compareTo_103 : decode cX12_compareTo 103 = .ok (.iadd, 1) := by decide +kernel
theorem dX12_compareTo_104 : decode cX12_compareTo 104 = .ok (.iaload, 1) := by decide +kernel
theorem dX12_compareTo_105 : decode cX12_compareTo 105 = .ok (.ifCond .ne 7, 3) := by decide +kernel
theorem dX12_compareTo_108 : decode cX12_compareTo 108 = .ok (.iconst 1, 1) := by decide +kernel
theorem dX12_compareTo_109 : decode cX12_compareTo 109 = .ok (.goto 24, 3) := by decide +kernel
theorem dX12_compareTo_112 : decode cX12_compareTo 112 = .ok (.iload 5, 2) := by decide +kernel
theorem dX12_compareTo_114 : decode cX12_compareTo 114 = .ok (.ifCond .ne 7, 3) := by decide +kernel
theorem dX12_compareTo_117 : decode cX12_compareTo 117 = .ok (.iconst (-1), 1) := by decide +kernel
theorem dX12_compareTo_118 : decode cX12_compareTo 118 = .ok (.goto 15, 3) := by decide +kernel
theorem dX12_compareTo_121 : decode cX12_compareTo 121 = .ok (.aload_n 0, 1) := by decide +kernel
theorem dX12_compareTo_122 : decode cX12_compareTo 122 = .ok (.getfield 7, 3) := by decide +kernel
theorem dX12_compareTo_125 : decode cX12_compareTo 125 = .ok (.iload 6, 2) := by decide +kernel
theorem dX12_compareTo_127 : decode cX12_compareTo 127 = .ok (.iconst 4, 1) := by decide +kernel
theorem dX12_compareTo_128 : decode cX12_compareTo 128 = .ok (.iadd, 1) := by decide +kernel
theorem dX12_compareTo_129 : decode cX12_compareTo 129 = .ok (.iaload, 1) := by decide +kernel
theorem dX12_compareTo_130 : decode cX12_compareTo 130 = .ok (.iload 5, 2) := by decide +kernel
theorem dX12_compareTo_132 : decode cX12_compareTo 132 = .ok (.isub, 1) := by decide +kernel
theorem dX12_compareTo_133 : decode cX12_compareTo 133 = .ok (.ireturn, 1) := by decide +kernel
theorem dX12_compared_0 : decode cX12_compared 0 = .ok (.bipush 9, 2) := by decide +kernel
theorem dX12_compared_2 : decode cX12_compared 2 = .ok (.iload_n 2, 1) := by decide +kernel
theorem dX12_compared_3 : decode cX12_compared 3 = .ok (.imul, 1) := by decide +kernel
theorem dX12_compared_4 : decode cX12_compared 4 = .ok (.istore_n 3, 1) := by decide +kernel
theorem dX12_compared_5 : decode cX12_compared 5 = .ok (.aload_n 0, 1) := by decide +kernel
theorem dX12_compared_6 : decode cX12_compared 6 = .ok (.iload_n 1, 1) := by decide +kernel
theorem dX12_compared_7 : decode cX12_compared 7 = .ok (.aload_n 0, 1) := by decide +kernel
theorem dX12_compared_8 : decode cX12_compared 8 = .ok (.getfield 7, 3) := by decide +kernel
theorem dX12_compared_11 : decode cX12_compared 11 = .ok (.iload_n 3, 1) := by decide +kernel
theorem dX12_compared_12 : decode cX12_compared 12 = .ok (.iconst 1, 1) := by decide +kernel
theorem dX12_compared_13 : decode cX12_compared 13 = .ok (.iadd, 1) := by decide +kernel
theorem dX12_compared_14 : decode cX12_compared 14 = .ok (.iaload, 1) := by decide +kernel
theorem dX12_compared_15 : decode cX12_compared 15 = .ok (.aload_n 0, 1) := by decide +kernel
theorem dX12_compared_16 : decode cX12_compared 16 = .ok (.getfield 7, 3) := by decide +kernel
theorem dX12_compared_19 : decode cX12_compared 19 = .ok (.iload_n 3, 1) := by decide +kernel
theorem dX12_compared_20 : decode cX12_compared 20 = .ok (.iconst 2, 1) := by decide +kernel
theorem dX12_compared_21 : decode cX12_compared 21 = .ok (.iadd, 1) := by decide +kernel
theorem dX12_compared_22 : decode cX12_compared 22 = .ok (.iaload, 1) := by decide +kernel
theorem dX12_compared_23 : decode cX12_compared 23 = .ok (.aload_n 0, 1) := by decide +kernel
theorem dX12_compared_24 : decode cX12_compared 24 = .ok (.getfield 7, 3) := by decide +kernel
theorem dX12_compared_27 : decode cX12_compared 27 = .ok (.iload_n 3, 1) := by decide +kernel
theorem dX12_compared_28 : decode cX12_compared 28 = .ok (.iconst 3, 1) := by decide +kernel
theorem dX12_compared_29 : decode cX12_compared 29 = .ok (.iadd, 1) := by decide +kernel
theorem dX12_compared_30 : decode cX12_compared 30 = .ok (.iaload, 1) := by decide +kernel
theorem dX12_compared_31 : decode cX12_compared 31 = .ok (.aload_n 0, 1) := by decide +kernel
theorem dX12_compared_32 : decode cX12_compared 32 = .ok (.getfield 7, 3) := by decide +kernel
theorem dX12_compared_35 : decode cX12_compared 35 = .ok (.iload_n 3, 1) := by decide +kernel
theorem dX12_compared_36 : decode cX12_compared 36 = .ok (.iconst 4, 1) := by decide +kernel
theorem dX12_compared_37 : decode cX12_compared 37 = .ok (.iadd, 1) := by decide +kernel
theorem dX12_compared_38 : decode cX12_compared 38 = .ok (.iaload, 1) := by decide +kernel
theorem dX12_compared_39 : decode cX12_compared 39 = .ok (.invokevirtual 85, 3) := by decide +kernel
theorem dX12_compared_42 : decode cX12_compared 42 = .ok (.ireturn, 1) := by decide +kernel
theorem dX12_isIn_0 : decode cX12_isIn 0 = .ok (.iconst 5, 1) := by decide +kernel
theorem dX12_isIn_1 : decode cX12_isIn 1 = .ok (.iload_n 1, 1) := by decide +kernel
theorem dX12_isIn_2 : decode cX12_isIn 2 = .ok (.imul, 1) := by decide +kernel
theorem dX12_isIn_3 : decode cX12_isIn 3 = .ok (.istore_n 3, 1) := by decide +kernel
theorem dX12_isIn_4 : decode cX12_isIn 4 = .ok (.aload_n 0, 1) := by decide +kernel
theorem dX12_isIn_5 : decode cX12_isIn 5 = .ok (.getfield 19, 3) := by decide +kernel
theorem dX12_isIn_8 : decode cX12_isIn 8 = .ok (.iload_n 3, 1) := by decide +kernel
theorem dX12_isIn_9 : decode cX12_isIn 9 = .ok (.iconst 1, 1) := by decide +kernel
theorem dX12_isIn_10 : decode cX12_isIn 10 = .ok (.iadd, 1) := by decide +kernel
theorem dX12_isIn_11 : decode cX12_isIn 11 = .ok (.iaload, 1) := by decide +kernel
theorem dX12_isIn_12 : decode cX12_isIn 12 = .ok (.istore 4, 2) := by decide +kernel
theorem dX12_isIn_14 : decode cX12_isIn 14 = .ok (.aload_n 0, 1) := by decide +kernel
theorem dX12_isIn_15 : decode cX12_isIn 15 = .ok (.getfield 19, 3) := by decide +kernel
theorem dX12_isIn_18 : decode cX12_isIn 18 = .ok (.iload_n 3, 1) := by decide +kernel
theorem dX12_isIn_19 : decode cX12_isIn 19 = .ok (.iconst 2, 1) := by decide +kernel
theorem dX12_isIn_20 : decode cX12_isIn 20 = .ok (.iadd, 1) := by decide +kernel
theorem dX12_isIn_21 : decode cX12_isIn 21 = .ok (.iaload, 1) := by decide +kernel
theorem dX12_isIn_22 : decode cX12_isIn 22 = .ok (.istore 5, 2) := by decide +kernel
theorem dX12_isIn_24 : decode cX12_isIn 24 = .ok (.aload_n 0, 1) := by decide +kernel
theorem dX12_isIn_25 : decode cX12_isIn 25 = .ok (.getfield 19, 3) := by decide +kernel
theorem dX12_isIn_28 : decode cX12_isIn 28 = .ok (.iload_n 3, 1) := by decide +kernel
theorem dX12_isIn_29 : decode cX12_isIn 29 = .ok (.iconst 3, 1) := by decide +kernel
theorem dX12_isIn_30 : decode cX12_isIn 30 = .ok (.iadd, 1) := by decide +kernel
theorem dX12_isIn_31 : decode cX12_isIn 31 = .ok (.iaload, 1) := by decide +kernel
theorem dX12_isIn_32 : decode cX12_isIn 32 = .ok (.istore 6, 2) := by decide +kernel
theorem dX12_isIn_34 : decode cX12_isIn 34 = .ok (.aload_n 0, 1) := by decide +kernel
theorem dX12_isIn_35 : decode cX12_isIn 35 = .ok (.getfield 19, 3) := by decide +kernel
theorem dX12_isIn_38 : decode cX12_isIn 38 = .ok (.iload_n 3, 1) := by decide +kernel
theorem dX12_isIn_39 : decode cX12_isIn 39 = .ok (.iconst 4, 1) := by decide +kernel
theorem dX12_isIn_40 : decode cX12_isIn 40 = .ok (.iadd, 1) := by decide +kernel
theorem dX12_isIn_41 : decode cX12_isIn 41 = .ok (.iaload, 1) := by decide +kernel
theorem dX12_isIn_42 : decode cX12_isIn 42 = .ok (.istore 7, 2) := by decide +kernel
theorem dX12_isIn_44 : decode cX12_isIn 44 = .ok (.aload_n 0, 1) := by decide +kernel
theorem dX12_isIn_45 : decode cX12_isIn 45 = .ok (.getfield 19, 3) := by decide +kernel
theorem dX12_isIn_48 : decode cX12_isIn 48 = .ok (.iload_n 3, 1) := by decide +kernel
theorem dX12_isIn_49 : decode cX12_isIn 49 = .ok (.iaload, 1) := by decide +kernel
theorem dX12_isIn_50 : decode cX12_isIn 50 = .ok (.istore 8, 2) := by decide +kernel
theorem dX12_isIn_52 : decode cX12_isIn 52 = .ok (.iload 8, 2) := by decide +kernel
theorem dX12_isIn_54 : decode cX12_isIn 54 = .ok (.bipush 8, 2) := by decide +kernel
theorem dX12_isIn_56 : decode cX12_isIn 56 = .ok (.if_icmp .eq 10, 3) := by decide +kernel
theorem dX12_isIn_59 : decode cX12_isIn 59 = .ok (.iload 8, 2) := by decide +kernel
theorem dX12_isIn_61 : decode cX12_isIn 61 = .ok (.bipush 9, 2) := by decide +kernel
theorem dX12_isIn_63 : decode cX12_isIn 63 = .ok (.if_icmp .ne 72, 3) := by decide +kernel
theorem dX12_isIn_66 : decode cX12_isIn 66 = .ok (.aload_n 0, 1) := by decide +kernel
theorem dX12_isIn_67 : decode cX12_isIn 67 = .ok (.getfield 22, 3) := by decide +kernel
theorem dX12_isIn_70 : decode cX12_isIn 70 = .ok (.bipush 24, 2) := by decide +kernel
theorem dX12_isIn_72 : decode cX12_isIn 72 = .ok (.iload 4, 2) := by decide +kernel
theorem dX12_isIn_74 : decode cX12_isIn 74 = .ok (.imul, 1) := by decide +kernel
theorem dX12_isIn_75 : decode cX12_isIn 75 = .ok (.iload_n 2, 1) := by decide +kernel
theorem dX12_isIn_76 : decode cX12_isIn 76 = .ok (.iadd, 1) := by decide +kernel
theorem dX12_isIn_77 : decode cX12_isIn 77 = .ok (.baload, 1) := by decide +kernel
theorem dX12_isIn_78 : decode cX12_isIn 78 = .ok (.istore 9, 2) := by decide +kernel
theorem dX12_isIn_80 : decode cX12_isIn 80 = .ok (.aload_n 0, 1) := by decide +kernel
theorem dX12_isIn_81 : decode cX12_isIn 81 = .ok (.getfield 22, 3) := by decide +kernel
theorem dX12_isIn_84 : decode cX12_isIn 84 = .ok (.bipush 24, 2) := by decide +kernel
theorem dX12_isIn_86 : decode cX12_isIn 86 = .ok (.iload 5, 2) := by decide +kernel
theorem dX12_isIn_88 : decode cX12_isIn 88 = .ok (.imul, 1) := by decide +kernel
theorem dX12_isIn_89 : decode cX12_isIn 89 = .ok (.iload_n 2, 1) := by decide +kernel
theorem dX12_isIn_90 : decode cX12_isIn 90 = .ok (.iadd, 1) := by decide +kernel
theorem dX12_isIn_91 : decode cX12_isIn 91 = .ok (.baload, 1) := by decide +kernel
theorem dX12_isIn_92 : decode cX12_isIn 92 = .ok (.istore 10, 2) := by decide +kernel
theorem dX12_isIn_94 : decode cX12_isIn 94 = .ok (.iload 8, 2) := by decide +kernel
theorem dX12_isIn_96 : decode cX12_isIn 96 = .ok (.bipush 8, 2) := by decide +kernel
theorem dX12_isIn_98 : decode cX12_isIn 98 = .ok (.if_icmp .ne 21, 3) := by decide +kernel
theorem dX12_isIn_101 : decode cX12_isIn 101 = .ok (.iload 9, 2) := by decide +kernel
theorem dX12_isIn_103 : decode cX12_isIn 103 = .ok (.ifCond .eq 12, 3) := by decide +kernel
theorem dX12_isIn_106 : decode cX12_isIn 106 = .ok (.iload 10, 2) := by decide +kernel
theorem dX12_isIn_108 : decode cX12_isIn 108 = .ok (.ifCond .eq 7, 3) := by decide +kernel
theorem dX12_isIn_111 : decode cX12_isIn 111 = .ok (.iconst 1, 1) := by decide +kernel
theorem dX12_isIn_112 : decode cX12_isIn 112 = .ok (.goto 22, 3) := by decide +kernel
theorem dX12_isIn_115 : decode cX12_isIn 115 = .ok (.iconst 0, 1) := by decide +kernel
theorem dX12_isIn_116 : decode cX12_isIn 116 = .ok (.goto 18, 3) := by decide +kernel
theorem dX12_isIn_119 : decode cX12_isIn 119 = .ok (.iload 9, 2) := by decide +kernel
theorem dX12_isIn_121 : decode cX12_isIn 121 = .ok (.ifCond .ne 8, 3) := by decide +kernel
theorem dX12_isIn_124 : decode cX12_isIn 124 = .ok (.iload 10, 2) := by decide +kernel
theorem dX12_isIn_126 : decode cX12_isIn 126 = .ok (.ifCond .eq 7, 3) := by decide +kernel
theorem dX12_isIn_129 : decode cX12_isIn 129 = .ok (.iconst 1, 1) := by decide +kernel
theorem dX12_isIn_130 : decode cX12_isIn 130 = .ok (.goto 4, 3) := by decide +kernel
theorem dX12_isIn_133 : decode cX12_isIn 133 = .ok (.iconst 0, 1) := by decide +kernel
theorem dX12_isIn_134 : decode cX12_isIn 134 = .ok (.ireturn, 1) := by decide +kernel
theorem dX12_isIn_135 : decode cX12_isIn 135 = .ok (.aload_n 0, 1) := by decide +kernel
theorem dX12_isIn_136 : decode cX12_isIn 136 = .ok (.iload_n 2, 1) := by decide +kernel
theorem dX12_isIn_137 : decode cX12_isIn 137 = .ok (.iload 4, 2) := by decide +kernel
theorem dX12_isIn_139 : decode cX12_isIn 139 = .ok (.iload 5, 2) := by decide +kernel
theorem dX12_isIn_141 : decode cX12_isIn 141 = .ok (.iload 6, 2) := by decide +kernel
theorem dX12_isIn_143 : decode cX12_isIn 143 = .ok (.iload 7, 2) := by decide +kernel
theorem dX12_isIn_145 : decode cX12_isIn 145 = .ok (.invokevirtual 85, 3) := by decide +kernel
theorem dX12_isIn_148 : decode cX12_isIn 148 = .ok (.istore 9, 2) := by decide +kernel
theorem dX12_isIn_150 : decode cX12_isIn 150 = .ok (.aload_n 0, 1) := by decide +kernel
theorem dX12_isIn_151 : decode cX12_isIn 151 = .ok (.getfield 7, 3) := by decide +kernel
theorem dX12_isIn_154 : decode cX12_isIn 154 = .ok (.bipush 9, 2) := by decide +kernel
theorem dX12_isIn_156 : decode cX12_isIn 156 = .ok (.iload_n 2, 1) := by decide +kernel
theorem dX12_isIn_157 : decode cX12_isIn 157 = .ok (.imul, 1) := by decide +kernel
theorem dX12_isIn_158 : decode cX12_isIn 158 = .ok (.iconst 4, 1) := by decide +kernel
theorem dX12_isIn_159 : decode cX12_isIn 159 = .ok (.iadd, 1) := by decide +kernel
theorem dX12_isIn_160 : decode cX12_isIn 160 = .ok (.iaload, 1) := by decide +kernel
theorem dX12_isIn_161 : decode cX12_isIn 161 = .ok (.ifCond .le 76, 3) := by decide +kernel
theorem dX12_isIn_164 : decode cX12_isIn 164 = .ok (.aload_n 0, 1) := by decide +kernel
theorem dX12_isIn_165 : decode cX12_isIn 165 = .ok (.getfield 7, 3) := by decide +kernel
theorem dX12_isIn_168 : decode cX12_isIn 168 = .ok (.bipush 9, 2) := by decide +kernel
theorem dX12_isIn_170 : decode cX12_isIn 170 = .ok (.iload_n 2, 1) := by decide +kernel
theorem dX12_isIn_171 : decode cX12_isIn 171 = .ok (.imul, 1) := by decide +kernel
theorem dX12_isIn_172 : decode cX12_isIn 172 = .ok (.iconst 1, 1) := by decide +kernel
theorem dX12_isIn_173 : decode cX12_isIn 173 = .ok (.iadd, 1) := by decide +kernel
theorem dX12_isIn_174 : decode cX12_isIn 174 = .ok (.iaload, 1) := by decide +kernel
theorem dX12_isIn_175 : decode cX12_isIn 175 = .ok (.iload 4, 2) := by decide +kernel
theorem dX12_isIn_177 : decode cX12_isIn 177 = .ok (.if_icmp .ne 39, 3) := by decide +kernel
theorem dX12_isIn_180 : decode cX12_isIn 180 = .ok (.aload_n 0, 1) := by decide +kernel
theorem dX12_isIn_181 : decode cX12_isIn 181 = .ok (.getfield 7, 3) := by decide +kernel
theorem dX12_isIn_184 : decode cX12_isIn 184 = .ok (.bipush 9, 2) := by decide +kernel
theorem dX12_isIn_186 : decode cX12_isIn 186 = .ok (.iload_n 2, 1) := by decide +kernel
theorem dX12_isIn_187 : decode cX12_isIn 187 = .ok (.imul, 1) := by decide +kernel
theorem dX12_isIn_188 : decode cX12_isIn 188 = .ok (.iconst 2, 1) := by decide +kernel
theorem dX12_isIn_189 : decode cX12_isIn 189 = .ok (.iadd, 1) := by decide +kernel
theorem dX12_isIn_190 : decode cX12_isIn 190 = .ok (.iaload, 1) := by decide +kernel
theorem dX12_isIn_191 : decode cX12_isIn 191 = .ok (.iload 5, 2) := by decide +kernel
theorem dX12_isIn_193 : decode cX12_isIn 193 = .ok (.if_icmp .ne 23, 3) := by decide +kernel
theorem dX12_isIn_196 : decode cX12_isIn 196 = .ok (.aload_n 0, 1) := by decide +kernel
theorem dX12_isIn_197 : decode cX12_isIn 197 = .ok (.getfield 7, 3) := by decide +kernel
theorem dX12_isIn_200 : decode cX12_isIn 200 = .ok (.bipush 9, 2) := by decide +kernel
theorem dX12_isIn_202 : decode cX12_isIn 202 = .ok (.iload_n 2, 1) := by decide +kernel
theorem dX12_isIn_203 : decode cX12_isIn 203 = .ok (.imul, 1) := by decide +kernel
theorem dX12_isIn_204 : decode cX12_isIn 204 = .ok (.iconst 3, 1) := by decide +kernel
theorem dX12_isIn_205 : decode cX12_isIn 205 = .ok (.iadd, 1) := by decide +kernel
theorem dX12_isIn_206 : decode cX12_isIn 206 = .ok (.iaload, 1) := by decide +kernel
theorem dX12_isIn_207 : decode cX12_isIn 207 = .ok (.iload 6, 2) := by decide +kernel
theorem dX12_isIn_209 : decode cX12_isIn 209 = .ok (.if_icmp .ne 7, 3) := by decide +kernel
theorem dX12_isIn_212 : decode cX12_isIn 212 = .ok (.iconst 1, 1) := by decide +kernel
theorem dX12_isIn_213 : decode cX12_isIn 213 = .ok (.goto 4, 3) := by decide +kernel
theorem dX12_isIn_216 : decode cX12_isIn 216 = .ok (.iconst 0, 1) := by decide +kernel
theorem dX12_isIn_217 : decode cX12_isIn 217 = .ok (.istore 10, 2) := by decide +kernel
theorem dX12_isIn_219 : decode cX12_isIn 219 = .ok (.iload 8, 2) := by decide +kernel
theorem dX12_isIn_221 : decode cX12_isIn 221 = .ok (.iconst 3, 1) := by decide +kernel
theorem dX12_isIn_222 : decode cX12_isIn 222 = .ok (.if_icmp .eq 13, 3) := by decide +kernel
theorem dX12_isIn_225 : decode cX12_isIn 225 = .ok (.iload 7, 2) := by decide +kernel
theorem dX12_isIn_227 : decode cX12_isIn 227 = .ok (.ifCond .eq 8, 3) := by decide +kernel
theorem dX12_isIn_230 : decode cX12_isIn 230 = .ok (.iload 10, 2) := by decide +kernel
theorem dX12_isIn_232 : decode cX12_isIn 232 = .ok (.ifCond .ne 5, 3) := by decide +kernel
theorem dX12_isIn_235 : decode cX12_isIn 235 = .ok (.iconst 0, 1) := by decide +kernel
theorem dX12_isIn_236 : decode cX12_isIn 236 = .ok (.ireturn, 1) := by decide +kernel
theorem dX12_isIn_237 : decode cX12_isIn 237 = .ok (.iload 8, 2) := by decide +kernel
theorem dX12_isIn_239 : decode cX12_isIn 239 = .ok (.tableswitch 231 0 7 #[45, 56, 67, 231, 78, 144, 171, 193], 45) := by decide +kernel
theorem dX12_isIn_284 : decode cX12_isIn 284 = .ok (.iload 9, 2) := by decide +kernel
theorem dX12_isIn_286 : decode cX12_isIn 286 = .ok (.ifCond .ne 7, 3) := by decide +kernel
theorem dX12_isIn_289 : decode cX12_isIn 289 = .ok (.iconst 1, 1) := by decide +kernel
theorem dX12_isIn_290 : decode cX12_isIn 290 = .ok (.goto 4, 3) := by decide +kernel
theorem dX12_isIn_293 : decode cX12_isIn 293 = .ok (.iconst 0, 1) := by decide +kernel
theorem dX12_isIn_294 : decode cX12_isIn 294 = .ok (.ireturn, 1) := by decide +kernel
theorem dX12_isIn_295 : decode cX12_isIn 295 = .ok (.iload 9, 2) := by decide +kernel
theorem dX12_isIn_297 : decode cX12_isIn 297 = .ok (.ifCond .lt 7, 3) := by decide +kernel
theorem dX12_isIn_300 : decode cX12_isIn 300 = .ok (.iconst 1, 1) := by decide +kernel
theorem dX12_isIn_301 : decode cX12_isIn 301 = .ok (.goto 4, 3) := by decide +kernel
theorem dX12_isIn_304 : decode cX12_isIn 304 = .ok (.iconst 0, 1) := by decide +kernel
theorem dX12_isIn_305 : decode cX12_isIn 305 = .ok (.ireturn, 1) := by decide +kernel
theorem dX12_isIn_306 : decode cX12_isIn 306 = .ok (.iload 9, 2) := by decide +kernel
theorem dX12_isIn_308 : decode cX12_isIn 308 = .ok (.ifCond .ge 7, 3) := by decide +kernel
theorem dX12_isIn_311 : decode cX12_isIn 311 = .ok (.iconst 1, 1) := by decide +kernel
theorem dX12_isIn_312 : decode cX12_isIn 312 = .ok (.goto 4, 3) := by decide +kernel
theorem dX12_isIn_315 : decode cX12_isIn 315 = .ok (.iconst 0, 1) := by decide +kernel
theorem dX12_isIn_316 : decode cX12_isIn 316 = .ok (.ireturn, 1) := by decide +kernel
theorem dX12_isIn_317 : decode cX12_isIn 317 = .ok (.iload 9, 2) := by decide +kernel
theorem dX12_isIn_319 : decode cX12_isIn 319 = .ok (.ifCond .lt 62, 3) := by decide +kernel
theorem dX12_isIn_322 : decode cX12_isIn 322 = .ok (.iload 4, 2) := by decide +kernel
theorem dX12_isIn_324 : decode cX12_isIn 324 = .ok (.ifCond .le 18, 3) := by decide +kernel
theorem dX12_isIn_327 : decode cX12_isIn 327 = .ok (.aload_n 0, 1) := by decide +kernel
theorem dX12_isIn_328 : decode cX12_isIn 328 = .ok (.iload_n 2, 1) := by decide +kernel
theorem dX12_isIn_329 : decode cX12_isIn 329 = .ok (.iload 4, 2) := by decide +kernel
theorem dX12_isIn_331 : decode cX12_isIn 331 = .ok (.iconst 1, 1) := by decide +kernel
theorem dX12_isIn_332 : decode cX12_isIn 332 = .ok (.iadd, 1) := by decide +kernel
theorem dX12_isIn_333 : decode cX12_isIn 333 = .ok (.iconst 0, 1) := by decide +kernel
theorem dX12_isIn_334 : decode cX12_isIn 334 = .ok (.iconst 0, 1) := by decide +kernel
theorem dX12_isIn_335 : decode cX12_isIn 335 = .ok (.iconst 0, 1) := by decide +kernel
theorem dX12_isIn_336 : decode cX12_isIn 336 = .ok (.invokevirtual 85, 3) := by decide +kernel
theorem dX12_isIn_339 : decode cX12_isIn 339 = .ok (.goto 35, 3) := by decide +kernel
theorem dX12_isIn_342 : decode cX12_isIn 342 = .ok (.iload 5, 2) := by decide +kernel
theorem dX12_isIn_344 : decode cX12_isIn 344 = .ok (.ifCond .le 18, 3) := by decide +kernel
theorem dX12_isIn_347 : decode cX12_isIn 347 = .ok (.aload_n 0, 1) := by decide +kernel
theorem dX12_isIn_348 : decode cX12_isIn 348 = .ok (.iload_n 2, 1) := by decide +kernel
theorem dX12_isIn_349 : decode cX12_isIn 349 = .ok (.iconst 0, 1) := by decide +kernel
theorem dX12_isIn_350 : decode cX12_isIn 350 = .ok (.iload 5, 2) := by decide +kernel
theorem dX12_isIn_352 : decode cX12_isIn 352 = .ok (.iconst 1, 1) := by decide +kernel
theorem dX12_isIn_353 : decode cX12_isIn 353 = .ok (.iadd, 1) := by decide +kernel
theorem dX12_isIn_354 : decode cX12_isIn 354 = .ok (.iconst 0, 1) := by decide +kernel
theorem dX12_isIn_355 : decode cX12_isIn 355 = .ok (.iconst 0, 1) := by decide +kernel
theorem dX12_isIn_356 : decode cX12_isIn 356 = .ok (.invokevirtual 85, 3) := by decide +kernel
theorem dX12_isIn_359 : decode cX12_isIn 359 = .ok (.goto 15, 3) := by decide +kernel
theorem dX12_isIn_362 : decode cX12_isIn 362 = .ok (.aload_n 0, 1) := by decide +kernel
theorem dX12_isIn_363 : decode cX12_isIn 363 = .ok (.iload_n 2, 1) := by decide +kernel
theorem dX12_isIn_364 : decode cX12_isIn 364 = .ok (.iconst 0, 1) := by decide +kernel
theorem dX12_isIn_365 : decode cX12_isIn 365 = .ok (.iconst 0, 1) := by decide +kernel
theorem dX12_isIn_366 : decode cX12_isIn 366 = .ok (.iload 6, 2) := by decide +kernel
theorem dX12_isIn_368 : decode cX12_isIn 368 = .ok (.iconst 1, 1) := by decide +kernel
theorem dX12_isIn_369 : decode cX12_isIn 369 = .ok (.iadd, 1) := by decide +kernel
theorem dX12_isIn_370 : decode cX12_isIn 370 = .ok (.iconst 0, 1) := by decide +kernel
theorem dX12_isIn_371 : decode cX12_isIn 371 = .ok (.invokevirtual 85, 3) := by decide +kernel
theorem dX12_isIn_374 : decode cX12_isIn 374 = .ok (.ifCond .ge 7, 3) := by decide +kernel
theorem dX12_isIn_377 : decode cX12_isIn 377 = .ok (.iconst 1, 1) := by decide +kernel
theorem dX12_isIn_378 : decode cX12_isIn 378 = .ok (.goto 4, 3) := by decide +kernel
theorem dX12_isIn_381 : decode cX12_isIn 381 = .ok (.iconst 0, 1) := by decide +kernel
theorem dX12_isIn_382 : decode cX12_isIn 382 = .ok (.ireturn, 1) := by decide +kernel
theorem dX12_isIn_383 : decode cX12_isIn 383 = .ok (.iload 9, 2) := by decide +kernel
theorem dX12_isIn_385 : decode cX12_isIn 385 = .ok (.ifCond .lt 23, 3) := by decide +kernel
theorem dX12_isIn_388 : decode cX12_isIn 388 = .ok (.aload_n 0, 1) := by decide +kernel
theorem dX12_isIn_389 : decode cX12_isIn 389 = .ok (.iload_n 2, 1) := by decide +kernel
theorem dX12_isIn_390 : decode cX12_isIn 390 = .ok (.iload 4, 2) := by decide +kernel
theorem dX12_isIn_392 : decode cX12_isIn 392 = .ok (.iload 5, 2) := by decide +kernel
theorem dX12_isIn_394 : decode cX12_isIn 394 = .ok (.iconst 1, 1) := by decide +kernel
theorem dX12_isIn_395 : decode cX12_isIn 395 = .ok (.iadd, 1) := by decide +kernel
theorem dX12_isIn_396 : decode cX12_isIn 396 = .ok (.iconst 0, 1) := by decide +kernel
theorem dX12_isIn_397 : decode cX12_isIn 397 = .ok (.iconst 0, 1) := by decide +kernel
theorem dX12_isIn_398 : decode cX12_isIn 398 = .ok (.invokevirtual 85, 3) := by decide +kernel
theorem dX12_isIn_401 : decode cX12_isIn 401 = .ok (.ifCond .ge 7, 3) := by decide +kernel
theorem dX12_isIn_404 : decode cX12_isIn 404 = .ok (.iconst 1, 1) := by decide +kernel
theorem dX12_isIn_405 : decode cX12_isIn 405 = .ok (.goto 4, 3) := by decide +kernel
theorem dX12_isIn_408 : decode cX12_isIn 408 = .ok (.iconst 0, 1) := by decide +kernel
theorem dX12_isIn_409 : decode cX12_isIn 409 = .ok (.ireturn, 1) := by decide +kernel
theorem dX12_isIn_410 : decode cX12_isIn 410 = .ok (.aload_n 0, 1) := by decide +kernel
theorem dX12_isIn_411 : decode cX12_isIn 411 = .ok (.getfield 7, 3) := by decide +kernel
theorem dX12_isIn_414 : decode cX12_isIn 414 = .ok (.bipush 9, 2) := by decide +kernel
theorem dX12_isIn_416 : decode cX12_isIn 416 = .ok (.iload_n 2, 1) := by decide +kernel
theorem dX12_isIn_417 : decode cX12_isIn 417 = .ok (.imul, 1) := by decide +kernel
theorem dX12_isIn_418 : decode cX12_isIn 418 = .ok (.iconst 1, 1) := by decide +kernel
theorem dX12_isIn_419 : decode cX12_isIn 419 = .ok (.iadd, 1) := by decide +kernel
theorem dX12_isIn_420 : decode cX12_isIn 420 = .ok (.iaload, 1) := by decide +kernel
theorem dX12_isIn_421 : decode cX12_isIn 421 = .ok (.iload 4, 2) := by decide +kernel
theorem dX12_isIn_423 : decode cX12_isIn 423 = .ok (.if_icmp .ne 7, 3) := by decide +kernel
theorem dX12_isIn_426 : decode cX12_isIn 426 = .ok (.iconst 1, 1) := by decide +kernel
theorem dX12_isIn_427 : decode cX12_isIn 427 = .ok (.goto 4, 3) := by decide +kernel
theorem dX12_isIn_430 : decode cX12_isIn 430 = .ok (.iconst 0, 1) := by decide +kernel
theorem dX12_isIn_431 : decode cX12_isIn 431 = .ok (.ireturn, 1) := by decide +kernel
theorem dX12_isIn_432 : decode cX12_isIn 432 = .ok (.aload_n 0, 1) := by decide +kernel
theorem dX12_isIn_433 : decode cX12_isIn 433 = .ok (.getfield 7, 3) := by decide +kernel
theorem dX12_isIn_436 : decode cX12_isIn 436 = .ok (.bipush 9, 2) := by decide +kernel
theorem dX12_isIn_438 : decode cX12_isIn 438 = .ok (.iload_n 2, 1) := by decide +kernel
theorem dX12_isIn_439 : decode cX12_isIn 439 = .ok (.imul, 1) := by decide +kernel
theorem dX12_isIn_440 : decode cX12_isIn 440 = .ok (.iconst 1, 1) := by decide +kernel
theorem dX12_isIn_441 : decode cX12_isIn 441 = .ok (.iadd, 1) := by decide +kernel
theorem dX12_isIn_442 : decode cX12_isIn 442 = .ok (.iaload, 1) := by decide +kernel
theorem dX12_isIn_443 : decode cX12_isIn 443 = .ok (.iload 4, 2) := by decide +kernel
theorem dX12_isIn_445 : decode cX12_isIn 445 = .ok (.if_icmp .ne 23, 3) := by decide +kernel
theorem dX12_isIn_448 : decode cX12_isIn 448 = .ok (.aload_n 0, 1) := by decide +kernel
theorem dX12_isIn_449 : decode cX12_isIn 449 = .ok (.getfield 7, 3) := by decide +kernel
theorem dX12_isIn_452 : decode cX12_isIn 452 = .ok (.bipush 9, 2) := by decide +kernel
theorem dX12_isIn_454 : decode cX12_isIn 454 = .ok (.iload_n 2, 1) := by decide +kernel
theorem dX12_isIn_455 : decode cX12_isIn 455 = .ok (.imul, 1) := by decide +kernel
theorem dX12_isIn_456 : decode cX12_isIn 456 = .ok (.iconst 2, 1) := by decide +kernel
theorem dX12_isIn_457 : decode cX12_isIn 457 = .ok (.iadd, 1) := by decide +kernel
theorem dX12_isIn_458 : decode cX12_isIn 458 = .ok (.iaload, 1) := by decide +kernel
theorem dX12_isIn_459 : decode cX12_isIn 459 = .ok (.iload 5, 2) := by decide +kernel
theorem dX12_isIn_461 : decode cX12_isIn 461 = .ok (.if_icmp .ne 7, 3) := by decide +kernel
theorem dX12_isIn_464 : decode cX12_isIn 464 = .ok (.iconst 1, 1) := by decide +kernel
theorem dX12_isIn_465 : decode cX12_isIn 465 = .ok (.goto 4, 3) := by decide +kernel
theorem dX12_isIn_468 : decode cX12_isIn 468 = .ok (.iconst 0, 1) := by decide +kernel
theorem dX12_isIn_469 : decode cX12_isIn 469 = .ok (.ireturn, 1) := by decide +kernel
theorem dX12_isIn_470 : decode cX12_isIn 470 = .ok (.iconst 1, 1) := by decide +kernel
theorem dX12_isIn_471 : decode cX12_isIn 471 = .ok (.ireturn, 1) := by decide +kernel
theorem dX12_fill_0 : decode cX12_fill 0 = .ok (.iconst 0, 1) := by decide +kernel
theorem dX12_fill_1 : decode cX12_fill 1 = .ok (.istore_n 2, 1) := by decide +kernel
theorem dX12_fill_2 : decode cX12_fill 2 = .ok (.iload_n 2, 1) := by decide +kernel
theorem dX12_fill_3 : decode cX12_fill 3 = .ok (.aload_n 0, 1) := by decide +kernel
theorem dX12_fill_4 : decode cX12_fill 4 = .ok (.getfield 79, 3) := by decide +kernel
theorem dX12_fill_7 : decode cX12_fill 7 = .ok (.if_icmp .ge 26, 3) := by decide +kernel
theorem dX12_fill_10 : decode cX12_fill 10 = .ok (.aload_n 0, 1) := by decide +kernel
theorem dX12_fill_11 : decode cX12_fill 11 = .ok (.getfield 22, 3) := by decide +kernel
theorem dX12_fill_14 : decode cX12_fill 14 = .ok (.bipush 24, 2) := by decide +kernel
theorem dX12_fill_16 : decode cX12_fill 16 = .ok (.iload_n 1, 1) := by decide +kernel
theorem dX12_fill_17 : decode cX12_fill 17 = .ok (.imul, 1) := by decide +kernel
theorem dX12_fill_18 : decode cX12_fill 18 = .ok (.iload_n 2, 1) := by decide +kernel
theorem dX12_fill_19 : decode cX12_fill 19 = .ok (.iadd, 1) := by decide +kernel
theorem dX12_fill_20 : decode cX12_fill 20 = .ok (.aload_n 0, 1) := by decide +kernel
theorem dX12_fill_21 : decode cX12_fill 21 = .ok (.iload_n 1, 1) := by decide +kernel
theorem dX12_fill_22 : decode cX12_fill 22 = .ok (.iload_n 2, 1) := by decide +kernel
theorem dX12_fill_23 : decode cX12_fill 23 = .ok (.invokevirtual 89, 3) := by decide +kernel
theorem dX12_fill_26 : decode cX12_fill 26 = .ok (.bastore, 1) := by decide +kernel
theorem dX12_fill_27 : decode cX12_fill 27 = .ok (.iinc 2 1, 3) := by decide +kernel
theorem dX12_fill_30 : decode cX12_fill 30 = .ok (.goto (-28), 3) := by decide +kernel
theorem dX12_fill_33 : decode cX12_fill 33 = .ok (.return_, 1) := by decide +kernel
theorem dX12_publish_0 : decode cX12_publish 0 = .ok (.iload_n 1, 1) := by decide +kernel
theorem dX12_publish_1 : decode cX12_publish 1 = .ok (.invokestatic 93, 3) := by decide +kernel
theorem dX12_publish_4 : decode cX12_publish 4 = .ok (.ifCond .eq 17, 3) := by decide +kernel
theorem dX12_publish_7 : decode cX12_publish 7 = .ok (.iload 6, 2) := by decide +kernel
theorem dX12_publish_9 : decode cX12_publish 9 = .ok (.iconst 0, 1) := by decide +kernel
theorem dX12_publish_10 : decode cX12_publish 10 = .ok (.iconst 1, 1) := by decide +kernel
theorem dX12_publish_11 : decode cX12_publish 11 = .ok (.invokestatic 75, 3) := by decide +kernel
theorem dX12_publish_14 : decode cX12_publish 14 = .ok (.ifCond .eq 7, 3) := by decide +kernel
theorem dX12_publish_17 : decode cX12_publish 17 = .ok (.iconst 1, 1) := by decide +kernel
theorem dX12_publish_18 : decode cX12_publish 18 = .ok (.goto 4, 3) := by decide +kernel
theorem dX12_publish_21 : decode cX12_publish 21 = .ok (.iconst 0, 1) := by decide +kernel
theorem dX12_publish_22 : decode cX12_publish 22 = .ok (.istore 7, 2) := by decide +kernel
theorem dX12_publish_24 : decode cX12_publish 24 = .ok (.iload_n 2, 1) := by decide +kernel
theorem dX12_publish_25 : decode cX12_publish 25 = .ok (.iconst 0, 1) := by decide +kernel
theorem dX12_publish_26 : decode cX12_publish 26 = .ok (.bipush 9, 2) := by decide +kernel
theorem dX12_publish_28 : decode cX12_publish 28 = .ok (.invokestatic 75, 3) := by decide +kernel
theorem dX12_publish_31 : decode cX12_publish 31 = .ok (.ifCond .eq 39, 3) := by decide +kernel
theorem dX12_publish_34 : decode cX12_publish 34 = .ok (.iload_n 3, 1) := by decide +kernel
theorem dX12_publish_35 : decode cX12_publish 35 = .ok (.iconst 0, 1) := by decide +kernel
theorem dX12_publish_36 : decode cX12_publish 36 = .ok (.bipush 9, 2) := by decide +kernel
theorem dX12_publish_38 : decode cX12_publish 38 = .ok (.invokestatic 75, 3) := by decide +kernel
theorem dX12_publish_41 : decode cX12_publish 41 = .ok (.ifCond .eq 29, 3) := by decide +kernel
theorem dX12_publish_44 : decode cX12_publish 44 = .ok (.iload 4, 2) := by decide +kernel
theorem dX12_publish_46 : decode cX12_publish 46 = .ok (.iconst 0, 1) := by decide +kernel
theorem dX12_publish_47 : decode cX12_publish 47 = .ok (.bipush 9, 2) := by decide +kernel
theorem dX12_publish_49 : decode cX12_publish 49 = .ok (.invokestatic 75, 3) := by decide +kernel
theorem dX12_publish_52 : decode cX12_publish 52 = .ok (.ifCond .eq 18, 3) := by decide +kernel
theorem dX12_publish_55 : decode cX12_publish 55 = .ok (.iload 5, 2) := by decide +kernel
theorem dX12_publish_57 : decode cX12_publish 57 = .ok (.iconst 0, 1) := by decide +kernel
theorem dX12_publish_58 : decode cX12_publish 58 = .ok (.bipush 9, 2) := by decide +kernel
theorem dX12_publish_60 : decode cX12_publish 60 = .ok (.invokestatic 75, 3) := by decide +kernel
theorem dX12_publish_63 : decode cX12_publish 63 = .ok (.ifCond .eq 7, 3) := by decide +kernel
theorem dX12_publish_66 : decode cX12_publish 66 = .ok (.iconst 1, 1) := by decide +kernel
theorem dX12_publish_67 : decode cX12_publish 67 = .ok (.goto 4, 3) := by decide +kernel
theorem dX12_publish_70 : decode cX12_publish 70 = .ok (.iconst 0, 1) := by decide +kernel
theorem dX12_publish_71 : decode cX12_publish 71 = .ok (.istore 8, 2) := by decide +kernel
theorem dX12_publish_73 : decode cX12_publish 73 = .ok (.iconst 0, 1) := by decide +kernel
theorem dX12_publish_74 : decode cX12_publish 74 = .ok (.istore 9, 2) := by decide +kernel
theorem dX12_publish_76 : decode cX12_publish 76 = .ok (.iconst 0, 1) := by decide +kernel
theorem dX12_publish_77 : decode cX12_publish 77 = .ok (.istore 10, 2) := by decide +kernel
theorem dX12_publish_79 : decode cX12_publish 79 = .ok (.iconst 0, 1) := by decide +kernel
theorem dX12_publish_80 : decode cX12_publish 80 = .ok (.istore 11, 2) := by decide +kernel
theorem dX12_publish_82 : decode cX12_publish 82 = .ok (.iload 11, 2) := by decide +kernel
theorem dX12_publish_84 : decode cX12_publish 84 = .ok (.aload_n 0, 1) := by decide +kernel
theorem dX12_publish_85 : decode cX12_publish 85 = .ok (.getfield 79, 3) := by decide +kernel
theorem dX12_publish_88 : decode cX12_publish 88 = .ok (.if_icmp .ge 73, 3) := by decide +kernel
theorem dX12_publish_91 : decode cX12_publish 91 = .ok (.aload_n 0, 1) := by decide +kernel
theorem dX12_publish_92 : decode cX12_publish 92 = .ok (.iload 11, 2) := by decide +kernel
theorem dX12_publish_94 : decode cX12_publish 94 = .ok (.invokevirtual 97, 3) := by decide +kernel
theorem dX12_publish_97 : decode cX12_publish 97 = .ok (.iload_n 1, 1) := by decide +kernel
theorem dX12_publish_98 : decode cX12_publish 98 = .ok (.if_icmp .ne 7, 3) := by decide +kernel
theorem dX12_publish_101 : decode cX12_publish 101 = .ok (.iconst 1, 1) := by decide +kernel
theorem dX12_publish_102 : decode cX12_publish 102 = .ok (.goto 4, 3) := by decide +kernel
theorem dX12_publish_105 : decode cX12_publish 105 = .ok (.iconst 0, 1) := by decide +kernel
theorem dX12_publish_106 : decode cX12_publish 106 = .ok (.istore 12, 2) := by decide +kernel
theorem dX12_publish_108 : decode cX12_publish 108 = .ok (.iload 9, 2) := by decide +kernel
theorem dX12_publish_110 : decode cX12_publish 110 = .ok (.iload 12, 2) := by decide +kernel
theorem dX12_publish_112 : decode cX12_publish 112 = .ok (.ifCond .eq 7, 3) := by decide +kernel
theorem dX12_publish_115 : decode cX12_publish 115 = .ok (.iconst 1, 1) := by decide +kernel
theorem dX12_publish_116 : decode cX12_publish 116 = .ok (.goto 4, 3) := by decide +kernel
theorem dX12_publish_119 : decode cX12_publish 119 = .ok (.iconst 0, 1) := by decide +kernel
theorem dX12_publish_120 : decode cX12_publish 120 = .ok (.iadd, 1) := by decide +kernel
theorem dX12_publish_121 : decode cX12_publish 121 = .ok (.istore 9, 2) := by decide +kernel
theorem dX12_publish_123 : decode cX12_publish 123 = .ok (.iload 10, 2) := by decide +kernel
theorem dX12_publish_125 : decode cX12_publish 125 = .ok (.ifCond .ne 23, 3) := by decide +kernel
theorem dX12_publish_128 : decode cX12_publish 128 = .ok (.iload 12, 2) := by decide +kernel
theorem dX12_publish_130 : decode cX12_publish 130 = .ok (.ifCond .eq 22, 3) := by decide +kernel
theorem dX12_publish_133 : decode cX12_publish 133 = .ok (.aload_n 0, 1) := by decide +kernel
theorem dX12_publish_134 : decode cX12_publish 134 = .ok (.iload 11, 2) := by decide +kernel
theorem dX12_publish_136 : decode cX12_publish 136 = .ok (.iload_n 2, 1) := by decide +kernel
theorem dX12_publish_137 : decode cX12_publish 137 = .ok (.iload_n 3, 1) := by decide +kernel
theorem dX12_publish_138 : decode cX12_publish 138 = .ok (.iload 4, 2) := by decide +kernel
theorem dX12_publish_140 : decode cX12_publish 140 = .ok (.iload 5, 2) := by decide +kernel
theorem dX12_publish_142 : decode cX12_publish 142 = .ok (.invokevirtual 85, 3) := by decide +kernel
theorem dX12_publish_145 : decode cX12_publish 145 = .ok (.ifCond .ne 7, 3) := by decide +kernel
theorem dX12_publish_148 : decode cX12_publish 148 = .ok (.iconst 1, 1) := by decide +kernel
theorem dX12_publish_149 : decode cX12_publish 149 = .ok (.goto 4, 3) := by decide +kernel
theorem dX12_publish_152 : decode cX12_publish 152 = .ok (.iconst 0, 1) := by decide +kernel
theorem dX12_publish_153 : decode cX12_publish 153 = .ok (.istore 10, 2) := by decide +kernel
theorem dX12_publish_155 : decode cX12_publish 155 = .ok (.iinc 11 1, 3) := by decide +kernel
theorem dX12_publish_158 : decode cX12_publish 158 = .ok (.goto (-76), 3) := by decide +kernel
theorem dX12_publish_161 : decode cX12_publish 161 = .ok (.aload_n 0, 1) := by decide +kernel
theorem dX12_publish_162 : decode cX12_publish 162 = .ok (.iload 7, 2) := by decide +kernel
theorem dX12_publish_164 : decode cX12_publish 164 = .ok (.ifCond .ne 7, 3) := by decide +kernel
theorem dX12_publish_167 : decode cX12_publish 167 = .ok (.iconst 1, 1) := by decide +kernel
theorem dX12_publish_168 : decode cX12_publish 168 = .ok (.goto 28, 3) := by decide +kernel
theorem dX12_publish_171 : decode cX12_publish 171 = .ok (.iload 8, 2) := by decide +kernel
theorem dX12_publish_173 : decode cX12_publish 173 = .ok (.ifCond .ne 7, 3) := by decide +kernel
theorem dX12_publish_176 : decode cX12_publish 176 = .ok (.iconst 2, 1) := by decide +kernel
theorem dX12_publish_177 : decode cX12_publish 177 = .ok (.goto 19, 3) := by decide +kernel
theorem dX12_publish_180 : decode cX12_publish 180 = .ok (.iload 9, 2) := by decide +kernel
theorem dX12_publish_182 : decode cX12_publish 182 = .ok (.iconst 4, 1) := by decide +kernel
theorem dX12_publish_183 : decode cX12_publish 183 = .ok (.if_icmp .eq 8, 3) := by decide +kernel
theorem dX12_publish_186 : decode cX12_publish 186 = .ok (.iload 10, 2) := by decide +kernel
theorem dX12_publish_188 : decode cX12_publish 188 = .ok (.ifCond .eq 7, 3) := by decide +kernel
theorem dX12_publish_191 : decode cX12_publish 191 = .ok (.iconst 3, 1) := by decide +kernel
theorem dX12_publish_192 : decode cX12_publish 192 = .ok (.goto 4, 3) := by decide +kernel
theorem dX12_publish_195 : decode cX12_publish 195 = .ok (.iconst 0, 1) := by decide +kernel
theorem dX12_publish_196 : decode cX12_publish 196 = .ok (.invokevirtual 101, 3) := by decide +kernel
theorem dX12_publish_199 : decode cX12_publish 199 = .ok (.ifCond .ne 5, 3) := by decide +kernel
theorem dX12_publish_202 : decode cX12_publish 202 = .ok (.iconst 0, 1) := by decide +kernel
theorem dX12_publish_203 : decode cX12_publish 203 = .ok (.ireturn, 1) := by decide +kernel
theorem dX12_publish_204 : decode cX12_publish 204 = .ok (.bipush 9, 2) := by decide +kernel
theorem dX12_publish_206 : decode cX12_publish 206 = .ok (.aload_n 0, 1) := by decide +kernel
theorem dX12_publish_207 : decode cX12_publish 207 = .ok (.getfield 79, 3) := by decide +kernel
theorem dX12_publish_210 : decode cX12_publish 210 = .ok (.imul, 1) := by decide +kernel
theorem dX12_publish_211 : decode cX12_publish 211 = .ok (.istore 11, 2) := by decide +kernel
theorem dX12_publish_213 : decode cX12_publish 213 = .ok (.aload_n 0, 1) := by decide +kernel
theorem dX12_publish_214 : decode cX12_publish 214 = .ok (.getfield 7, 3) := by decide +kernel
theorem dX12_publish_217 : decode cX12_publish 217 = .ok (.iload 11, 2) := by decide +kernel
theorem dX12_publish_219 : decode cX12_publish 219 = .ok (.iload_n 1, 1) := by decide +kernel
theorem dX12_publish_220 : decode cX12_publish 220 = .ok (.iastore, 1) := by decide +kernel
theorem dX12_publish_221 : decode cX12_publish 221 = .ok (.aload_n 0, 1) := by decide +kernel
theorem dX12_publish_222 : decode cX12_publish 222 = .ok (.getfield 7, 3) := by decide +kernel
theorem dX12_publish_225 : decode cX12_publish 225 = .ok (.iload 11, 2) := by decide +kernel
theorem dX12_publish_227 : decode cX12_publish 227 = .ok (.iconst 1, 1) := by decide +kernel
theorem dX12_publish_228 : decode cX12_publish 228 = .ok (.iadd, 1) := by decide +kernel
theorem dX12_publish_229 : decode cX12_publish 229 = .ok (.iload_n 2, 1) := by decide +kernel
theorem dX12_publish_230 : decode cX12_publish 230 = .ok (.iastore, 1) := by decide +kernel
theorem dX12_publish_231 : decode cX12_publish 231 = .ok (.aload_n 0, 1) := by decide +kernel
theorem dX12_publish_232 : decode cX12_publish 232 = .ok (.getfield 7, 3) := by decide +kernel
theorem dX12_publish_235 : decode cX12_publish 235 = .ok (.iload 11, 2) := by decide +kernel
theorem dX12_publish_237 : decode cX12_publish 237 = .ok (.iconst 2, 1) := by decide +kernel
theorem dX12_publish_238 : decode cX12_publish 238 = .ok (.iadd, 1) := by decide +kernel
theorem dX12_publish_239 : decode cX12_publish 239 = .ok (.iload_n 3, 1) := by decide +kernel
theorem dX12_publish_240 : decode cX12_publish 240 = .ok (.iastore, 1) := by decide +kernel
theorem dX12_publish_241 : decode cX12_publish 241 = .ok (.aload_n 0, 1) := by decide +kernel
theorem dX12_publish_242 : decode cX12_publish 242 = .ok (.getfield 7, 3) := by decide +kernel
theorem dX12_publish_245 : decode cX12_publish 245 = .ok (.iload 11, 2) := by decide +kernel
theorem dX12_publish_247 : decode cX12_publish 247 = .ok (.iconst 3, 1) := by decide +kernel
theorem dX12_publish_248 : decode cX12_publish 248 = .ok (.iadd, 1) := by decide +kernel
theorem dX12_publish_249 : decode cX12_publish 249 = .ok (.iload 4, 2) := by decide +kernel
theorem dX12_publish_251 : decode cX12_publish 251 = .ok (.iastore, 1) := by decide +kernel
theorem dX12_publish_252 : decode cX12_publish 252 = .ok (.aload_n 0, 1) := by decide +kernel
theorem dX12_publish_253 : decode cX12_publish 253 = .ok (.getfield 7, 3) := by decide +kernel
theorem dX12_publish_256 : decode cX12_publish 256 = .ok (.iload 11, 2) := by decide +kernel
theorem dX12_publish_258 : decode cX12_publish 258 = .ok (.iconst 4, 1) := by decide +kernel
theorem dX12_publish_259 : decode cX12_publish 259 = .ok (.iadd, 1) := by decide +kernel
theorem dX12_publish_260 : decode cX12_publish 260 = .ok (.iload 5, 2) := by decide +kernel
theorem dX12_publish_262 : decode cX12_publish 262 = .ok (.iastore, 1) := by decide +kernel
theorem dX12_publish_263 : decode cX12_publish 263 = .ok (.aload_n 0, 1) := by decide +kernel
theorem dX12_publish_264 : decode cX12_publish 264 = .ok (.getfield 7, 3) := by decide +kernel
theorem dX12_publish_267 : decode cX12_publish 267 = .ok (.iload 11, 2) := by decide +kernel
theorem dX12_publish_269 : decode cX12_publish 269 = .ok (.iconst 5, 1) := by decide +kernel
theorem dX12_publish_270 : decode cX12_publish 270 = .ok (.iadd, 1) := by decide +kernel
theorem dX12_publish_271 : decode cX12_publish 271 = .ok (.iload 6, 2) := by decide +kernel
theorem dX12_publish_273 : decode cX12_publish 273 = .ok (.iastore, 1) := by decide +kernel
theorem dX12_publish_274 : decode cX12_publish 274 = .ok (.aload_n 0, 1) := by decide +kernel
theorem dX12_publish_275 : decode cX12_publish 275 = .ok (.getfield 7, 3) := by decide +kernel
theorem dX12_publish_278 : decode cX12_publish 278 = .ok (.iload 11, 2) := by decide +kernel
theorem dX12_publish_280 : decode cX12_publish 280 = .ok (.bipush 7, 2) := by decide +kernel
theorem dX12_publish_282 : decode cX12_publish 282 = .ok (.iadd, 1) := by decide +kernel
theorem dX12_publish_283 : decode cX12_publish 283 = .ok (.bipush 7, 2) := by decide +kernel
theorem dX12_publish_285 : decode cX12_publish 285 = .ok (.iastore, 1) := by decide +kernel
theorem dX12_publish_286 : decode cX12_publish 286 = .ok (.aload_n 0, 1) := by decide +kernel
theorem dX12_publish_287 : decode cX12_publish 287 = .ok (.dup, 1) := by decide +kernel
theorem dX12_publish_288 : decode cX12_publish 288 = .ok (.getfield 79, 3) := by decide +kernel
theorem dX12_publish_291 : decode cX12_publish 291 = .ok (.iconst 1, 1) := by decide +kernel
theorem dX12_publish_292 : decode cX12_publish 292 = .ok (.iadd, 1) := by decide +kernel
theorem dX12_publish_293 : decode cX12_publish 293 = .ok (.putfield 79, 3) := by decide +kernel
theorem dX12_publish_296 : decode cX12_publish 296 = .ok (.iconst 0, 1) := by decide +kernel
theorem dX12_publish_297 : decode cX12_publish 297 = .ok (.istore 12, 2) := by decide +kernel
theorem dX12_publish_299 : decode cX12_publish 299 = .ok (.iload 12, 2) := by decide +kernel
theorem dX12_publish_301 : decode cX12_publish 301 = .ok (.aload_n 0, 1) := by decide +kernel
theorem dX12_publish_302 : decode cX12_publish 302 = .ok (.getfield 82, 3) := by decide +kernel
theorem dX12_publish_305 : decode cX12_publish 305 = .ok (.if_icmp .ge 38, 3) := by decide +kernel
theorem dX12_publish_308 : decode cX12_publish 308 = .ok (.aload_n 0, 1) := by decide +kernel
theorem dX12_publish_309 : decode cX12_publish 309 = .ok (.getfield 22, 3) := by decide +kernel
theorem dX12_publish_312 : decode cX12_publish 312 = .ok (.bipush 24, 2) := by decide +kernel
theorem dX12_publish_314 : decode cX12_publish 314 = .ok (.iload 12, 2) := by decide +kernel
theorem dX12_publish_316 : decode cX12_publish 316 = .ok (.imul, 1) := by decide +kernel
theorem dX12_publish_317 : decode cX12_publish 317 = .ok (.aload_n 0, 1) := by decide +kernel
theorem dX12_publish_318 : decode cX12_publish 318 = .ok (.getfield 79, 3) := by decide +kernel
theorem dX12_publish_321 : decode cX12_publish 321 = .ok (.iadd, 1) := by decide +kernel
theorem dX12_publish_322 : decode cX12_publish 322 = .ok (.iconst 1, 1) := by decide +kernel
theorem dX12_publish_323 : decode cX12_publish 323 = .ok (.isub, 1) := by decide +kernel
theorem dX12_publish_324 : decode cX12_publish 324 = .ok (.aload_n 0, 1) := by decide +kernel
theorem dX12_publish_325 : decode cX12_publish 325 = .ok (.iload 12, 2) := by decide +kernel
theorem dX12_publish_327 : decode cX12_publish 327 = .ok (.aload_n 0, 1) := by decide +kernel
theorem dX12_publish_328 : decode cX12_publish 328 = .ok (.getfield 79, 3) := by decide +kernel
theorem dX12_publish_331 : decode cX12_publish 331 = .ok (.iconst 1, 1) := by decide +kernel
theorem dX12_publish_332 : decode cX12_publish 332 = .ok (.isub, 1) := by decide +kernel
theorem dX12_publish_333 : decode cX12_publish 333 = .ok (.invokevirtual 89, 3) := by decide +kernel
theorem dX12_publish_336 : decode cX12_publish 336 = .ok (.bastore, 1) := by decide +kernel
theorem dX12_publish_337 : decode cX12_publish 337 = .ok (.iinc 12 1, 3) := by decide +kernel
theorem dX12_publish_340 : decode cX12_publish 340 = .ok (.goto (-41), 3) := by decide +kernel
theorem dX12_publish_343 : decode cX12_publish 343 = .ok (.aload_n 0, 1) := by decide +kernel
theorem dX12_publish_344 : decode cX12_publish 344 = .ok (.iconst 0, 1) := by decide +kernel
theorem dX12_publish_345 : decode cX12_publish 345 = .ok (.putfield 104, 3) := by decide +kernel
theorem dX12_publish_348 : decode cX12_publish 348 = .ok (.aload_n 0, 1) := by decide +kernel
theorem dX12_publish_349 : decode cX12_publish 349 = .ok (.getfield 79, 3) := by decide +kernel
theorem dX12_publish_352 : decode cX12_publish 352 = .ok (.iconst 1, 1) := by decide +kernel
theorem dX12_publish_353 : decode cX12_publish 353 = .ok (.isub, 1) := by decide +kernel
theorem dX12_publish_354 : decode cX12_publish 354 = .ok (.ireturn, 1) := by decide +kernel
theorem dX12_compare_0 : decode cX12_compare 0 = .ok (.aload_n 0, 1) := by decide +kernel
theorem dX12_compare_1 : decode cX12_compare 1 = .ok (.iload_n 1, 1) := by decide +kernel
theorem dX12_compare_2 : decode cX12_compare 2 = .ok (.invokevirtual 108, 3) := by decide +kernel
theorem dX12_compare_5 : decode cX12_compare 5 = .ok (.ifCond .eq 15, 3) := by decide +kernel
theorem dX12_compare_8 : decode cX12_compare 8 = .ok (.aload_n 0, 1) := by decide +kernel
theorem dX12_compare_9 : decode cX12_compare 9 = .ok (.iload_n 2, 1) := by decide +kernel
theorem dX12_compare_10 : decode cX12_compare 10 = .ok (.invokevirtual 108, 3) := by decide +kernel
theorem dX12_compare_13 : decode cX12_compare 13 = .ok (.ifCond .eq 7, 3) := by decide +kernel
theorem dX12_compare_16 : decode cX12_compare 16 = .ok (.iconst 1, 1) := by decide +kernel
theorem dX12_compare_17 : decode cX12_compare 17 = .ok (.goto 4, 3) := by decide +kernel
theorem dX12_compare_20 : decode cX12_compare 20 = .ok (.iconst 0, 1) := by decide +kernel
theorem dX12_compare_21 : decode cX12_compare 21 = .ok (.istore_n 3, 1) := by decide +kernel
theorem dX12_compare_22 : decode cX12_compare 22 = .ok (.aload_n 0, 1) := by decide +kernel
theorem dX12_compare_23 : decode cX12_compare 23 = .ok (.iload_n 3, 1) := by decide +kernel
theorem dX12_compare_24 : decode cX12_compare 24 = .ok (.ifCond .ne 7, 3) := by decide +kernel
theorem dX12_compare_27 : decode cX12_compare 27 = .ok (.iconst 1, 1) := by decide +kernel
theorem dX12_compare_28 : decode cX12_compare 28 = .ok (.goto 21, 3) := by decide +kernel
theorem dX12_compare_31 : decode cX12_compare 31 = .ok (.aload_n 0, 1) := by decide +kernel
theorem dX12_compare_32 : decode cX12_compare 32 = .ok (.iload_n 1, 1) := by decide +kernel
theorem dX12_compare_33 : decode cX12_compare 33 = .ok (.invokevirtual 97, 3) := by decide +kernel
theorem dX12_compare_36 : decode cX12_compare 36 = .ok (.aload_n 0, 1) := by decide +kernel
theorem dX12_compare_37 : decode cX12_compare 37 = .ok (.iload_n 2, 1) := by decide +kernel
theorem dX12_compare_38 : decode cX12_compare 38 = .ok (.invokevirtual 97, 3) := by decide +kernel
theorem dX12_compare_41 : decode cX12_compare 41 = .ok (.if_icmp .eq 7, 3) := by decide +kernel
theorem dX12_compare_44 : decode cX12_compare 44 = .ok (.iconst 2, 1) := by decide +kernel
theorem dX12_compare_45 : decode cX12_compare 45 = .ok (.goto 4, 3) := by decide +kernel
theorem dX12_compare_48 : decode cX12_compare 48 = .ok (.iconst 0, 1) := by decide +kernel
theorem dX12_compare_49 : decode cX12_compare 49 = .ok (.invokevirtual 101, 3) := by decide +kernel
theorem dX12_compare_52 : decode cX12_compare 52 = .ok (.ifCond .ne 5, 3) := by decide +kernel
theorem dX12_compare_55 : decode cX12_compare 55 = .ok (.iconst 0, 1) := by decide +kernel
theorem dX12_compare_56 : decode cX12_compare 56 = .ok (.ireturn, 1) := by decide +kernel
theorem dX12_compare_57 : decode cX12_compare 57 = .ok (.aload_n 0, 1) := by decide +kernel
theorem dX12_compare_58 : decode cX12_compare 58 = .ok (.iload_n 1, 1) := by decide +kernel
theorem dX12_compare_59 : decode cX12_compare 59 = .ok (.iload_n 2, 1) := by decide +kernel
theorem dX12_compare_60 : decode cX12_compare 60 = .ok (.invokevirtual 111, 3) := by decide +kernel
theorem dX12_compare_63 : decode cX12_compare 63 = .ok (.istore 4, 2) := by decide +kernel
theorem dX12_compare_65 : decode cX12_compare 65 = .ok (.iload 4, 2) := by decide +kernel
theorem dX12_compare_67 : decode cX12_compare 67 = .ok (.ifCond .le 7, 3) := by decide +kernel
theorem dX12_compare_70 : decode cX12_compare 70 = .ok (.iconst 1, 1) := by decide +kernel
theorem dX12_compare_71 : decode cX12_compare 71 = .ok (.goto 13, 3) := by decide +kernel
theorem dX12_compare_74 : decode cX12_compare 74 = .ok (.iload 4, 2) := by decide +kernel
theorem dX12_compare_76 : decode cX12_compare 76 = .ok (.ifCond .ge 7, 3) := by decide +kernel
theorem dX12_compare_79 : decode cX12_compare 79 = .ok (.iconst (-1), 1) := by decide +kernel
theorem dX12_compare_80 : decode cX12_compare 80 = .ok (.goto 4, 3) := by decide +kernel
theorem dX12_compare_83 : decode cX12_compare 83 = .ok (.iconst 0, 1) := by decide +kernel
theorem dX12_compare_84 : decode cX12_compare 84 = .ok (.ireturn, 1) := by decide +kernel
theorem dX12_yank_0 : decode cX12_yank 0 = .ok (.aload_n 0, 1) := by decide +kernel
theorem dX12_yank_1 : decode cX12_yank 1 = .ok (.aload_n 0, 1) := by decide +kernel
theorem dX12_yank_2 : decode cX12_yank 2 = .ok (.iload_n 1, 1) := by decide +kernel
theorem dX12_yank_3 : decode cX12_yank 3 = .ok (.invokevirtual 108, 3) := by decide +kernel
theorem dX12_yank_6 : decode cX12_yank 6 = .ok (.ifCond .eq 7, 3) := by decide +kernel
theorem dX12_yank_9 : decode cX12_yank 9 = .ok (.iconst 0, 1) := by decide +kernel
theorem dX12_yank_10 : decode cX12_yank 10 = .ok (.goto 4, 3) := by decide +kernel
theorem dX12_yank_13 : decode cX12_yank 13 = .ok (.iconst 1, 1) := by decide +kernel
theorem dX12_yank_14 : decode cX12_yank 14 = .ok (.invokevirtual 101, 3) := by decide +kernel
theorem dX12_yank_17 : decode cX12_yank 17 = .ok (.ifCond .ne 5, 3) := by decide +kernel
theorem dX12_yank_20 : decode cX12_yank 20 = .ok (.iconst 0, 1) := by decide +kernel
theorem dX12_yank_21 : decode cX12_yank 21 = .ok (.ireturn, 1) := by decide +kernel
theorem dX12_yank_22 : decode cX12_yank 22 = .ok (.aload_n 0, 1) := by decide +kernel
theorem dX12_yank_23 : decode cX12_yank 23 = .ok (.getfield 7, 3) := by decide +kernel
theorem dX12_yank_26 : decode cX12_yank 26 = .ok (.bipush 9, 2) := by decide +kernel
theorem dX12_yank_28 : decode cX12_yank 28 = .ok (.iload_n 1, 1) := by decide +kernel
theorem dX12_yank_29 : decode cX12_yank 29 = .ok (.imul, 1) := by decide +kernel
theorem dX12_yank_30 : decode cX12_yank 30 = .ok (.bipush 6, 2) := by decide +kernel
theorem dX12_yank_32 : decode cX12_yank 32 = .ok (.iadd, 1) := by decide +kernel
theorem dX12_yank_33 : decode cX12_yank 33 = .ok (.iconst 1, 1) := by decide +kernel
theorem dX12_yank_34 : decode cX12_yank 34 = .ok (.aload_n 0, 1) := by decide +kernel
theorem dX12_yank_35 : decode cX12_yank 35 = .ok (.getfield 7, 3) := by decide +kernel
theorem dX12_yank_38 : decode cX12_yank 38 = .ok (.bipush 9, 2) := by decide +kernel
theorem dX12_yank_40 : decode cX12_yank 40 = .ok (.iload_n 1, 1) := by decide +kernel
theorem dX12_yank_41 : decode cX12_yank 41 = .ok (.imul, 1) := by decide +kernel
theorem dX12_yank_42 : decode cX12_yank 42 = .ok (.bipush 6, 2) := by decide +kernel
theorem dX12_yank_44 : decode cX12_yank 44 = .ok (.iadd, 1) := by decide +kernel
theorem dX12_yank_45 : decode cX12_yank 45 = .ok (.iaload, 1) := by decide +kernel
theorem dX12_yank_46 : decode cX12_yank 46 = .ok (.isub, 1) := by decide +kernel
theorem dX12_yank_47 : decode cX12_yank 47 = .ok (.iastore, 1) := by decide +kernel
theorem dX12_yank_48 : decode cX12_yank 48 = .ok (.aload_n 0, 1) := by decide +kernel
theorem dX12_yank_49 : decode cX12_yank 49 = .ok (.iconst 0, 1) := by decide +kernel
theorem dX12_yank_50 : decode cX12_yank 50 = .ok (.putfield 104, 3) := by decide +kernel
theorem dX12_yank_53 : decode cX12_yank 53 = .ok (.aload_n 0, 1) := by decide +kernel
theorem dX12_yank_54 : decode cX12_yank 54 = .ok (.getfield 7, 3) := by decide +kernel
theorem dX12_yank_57 : decode cX12_yank 57 = .ok (.bipush 9, 2) := by decide +kernel
theorem dX12_yank_59 : decode cX12_yank 59 = .ok (.iload_n 1, 1) := by decide +kernel
theorem dX12_yank_60 : decode cX12_yank 60 = .ok (.imul, 1) := by decide +kernel
theorem dX12_yank_61 : decode cX12_yank 61 = .ok (.bipush 6, 2) := by decide +kernel
theorem dX12_yank_63 : decode cX12_yank 63 = .ok (.iadd, 1) := by decide +kernel
theorem dX12_yank_64 : decode cX12_yank 64 = .ok (.iaload, 1) := by decide +kernel
theorem dX12_yank_65 : decode cX12_yank 65 = .ok (.iconst 1, 1) := by decide +kernel
theorem dX12_yank_66 : decode cX12_yank 66 = .ok (.if_icmp .ne 7, 3) := by decide +kernel
theorem dX12_yank_69 : decode cX12_yank 69 = .ok (.iconst 1, 1) := by decide +kernel
theorem dX12_yank_70 : decode cX12_yank 70 = .ok (.goto 4, 3) := by decide +kernel
theorem dX12_yank_73 : decode cX12_yank 73 = .ok (.iconst 0, 1) := by decide +kernel
theorem dX12_yank_74 : decode cX12_yank 74 = .ok (.ireturn, 1) := by decide +kernel
theorem dX12_setPlatforms_0 : decode cX12_setPlatforms 0 = .ok (.aload_n 0, 1) := by decide +kernel
theorem dX12_setPlatforms_1 : decode cX12_setPlatforms 1 = .ok (.aload_n 0, 1) := by decide +kernel
theorem dX12_setPlatforms_2 : decode cX12_setPlatforms 2 = .ok (.iload_n 1, 1) := by decide +kernel
theorem dX12_setPlatforms_3 : decode cX12_setPlatforms 3 = .ok (.invokevirtual 108, 3) := by decide +kernel
theorem dX12_setPlatforms_6 : decode cX12_setPlatforms 6 = .ok (.ifCond .ne 7, 3) := by decide +kernel
theorem dX12_setPlatforms_9 : decode cX12_setPlatforms 9 = .ok (.iconst 1, 1) := by decide +kernel
theorem dX12_setPlatforms_10 : decode cX12_setPlatforms 10 = .ok (.goto 18, 3) := by decide +kernel
theorem dX12_setPlatforms_13 : decode cX12_setPlatforms 13 = .ok (.iload_n 2, 1) := by decide +kernel
theorem dX12_setPlatforms_14 : decode cX12_setPlatforms 14 = .ok (.iconst 0, 1) := by decide +kernel
theorem dX12_setPlatforms_15 : decode cX12_setPlatforms 15 = .ok (.bipush 7, 2) := by decide +kernel
theorem dX12_setPlatforms_17 : decode cX12_setPlatforms 17 = .ok (.invokestatic 75, 3) := by decide +kernel
theorem dX12_setPlatforms_20 : decode cX12_setPlatforms 20 = .ok (.ifCond .eq 7, 3) := by decide +kernel
theorem dX12_setPlatforms_23 : decode cX12_setPlatforms 23 = .ok (.iconst 0, 1) := by decide +kernel
theorem dX12_setPlatforms_24 : decode cX12_setPlatforms 24 = .ok (.goto 4, 3) := by decide +kernel
theorem dX12_setPlatforms_27 : decode cX12_setPlatforms 27 = .ok (.iconst 2, 1) := by decide +kernel
theorem dX12_setPlatforms_28 : decode cX12_setPlatforms 28 = .ok (.invokevirtual 101, 3) := by decide +kernel
theorem dX12_setPlatforms_31 : decode cX12_setPlatforms 31 = .ok (.ifCond .ne 5, 3) := by decide +kernel
theorem dX12_setPlatforms_34 : decode cX12_setPlatforms 34 = .ok (.iconst 0, 1) := by decide +kernel
theorem dX12_setPlatforms_35 : decode cX12_setPlatforms 35 = .ok (.ireturn, 1) := by decide +kernel
theorem dX12_setPlatforms_36 : decode cX12_setPlatforms 36 = .ok (.aload_n 0, 1) := by decide +kernel
theorem dX12_setPlatforms_37 : decode cX12_setPlatforms 37 = .ok (.getfield 7, 3) := by decide +kernel
theorem dX12_setPlatforms_40 : decode cX12_setPlatforms 40 = .ok (.bipush 9, 2) := by decide +kernel
theorem dX12_setPlatforms_42 : decode cX12_setPlatforms 42 = .ok (.iload_n 1, 1) := by decide +kernel
theorem dX12_setPlatforms_43 : decode cX12_setPlatforms 43 = .ok (.imul, 1) := by decide +kernel
theorem dX12_setPlatforms_44 : decode cX12_setPlatforms 44 = .ok (.bipush 7, 2) := by decide +kernel
theorem dX12_setPlatforms_46 : decode cX12_setPlatforms 46 = .ok (.iadd, 1) := by decide +kernel
theorem dX12_setPlatforms_47 : decode cX12_setPlatforms 47 = .ok (.iaload, 1) := by decide +kernel
theorem dX12_setPlatforms_48 : decode cX12_setPlatforms 48 = .ok (.istore_n 3, 1) := by decide +kernel
theorem dX12_setPlatforms_49 : decode cX12_setPlatforms 49 = .ok (.aload_n 0, 1) := by decide +kernel
theorem dX12_setPlatforms_50 : decode cX12_setPlatforms 50 = .ok (.getfield 7, 3) := by decide +kernel
theorem dX12_setPlatforms_53 : decode cX12_setPlatforms 53 = .ok (.bipush 9, 2) := by decide +kernel
theorem dX12_setPlatforms_55 : decode cX12_setPlatforms 55 = .ok (.iload_n 1, 1) := by decide +kernel
theorem dX12_setPlatforms_56 : decode cX12_setPlatforms 56 = .ok (.imul, 1) := by decide +kernel
theorem dX12_setPlatforms_57 : decode cX12_setPlatforms 57 = .ok (.bipush 7, 2) := by decide +kernel
theorem dX12_setPlatforms_59 : decode cX12_setPlatforms 59 = .ok (.iadd, 1) := by decide +kernel
theorem dX12_setPlatforms_60 : decode cX12_setPlatforms 60 = .ok (.iload_n 2, 1) := by decide +kernel
theorem dX12_setPlatforms_61 : decode cX12_setPlatforms 61 = .ok (.iastore, 1) := by decide +kernel
theorem dX12_setPlatforms_62 : decode cX12_setPlatforms 62 = .ok (.aload_n 0, 1) := by decide +kernel
theorem dX12_setPlatforms_63 : decode cX12_setPlatforms 63 = .ok (.iconst 0, 1) := by decide +kernel
theorem dX12_setPlatforms_64 : decode cX12_setPlatforms 64 = .ok (.putfield 104, 3) := by decide +kernel
theorem dX12_setPlatforms_67 : decode cX12_setPlatforms 67 = .ok (.iload_n 3, 1) := by decide +kernel
theorem dX12_setPlatforms_68 : decode cX12_setPlatforms 68 = .ok (.ireturn, 1) := by decide +kernel
theorem dX12_bring_0 : decode cX12_bring 0 = .ok (.aload_n 0, 1) := by decide +kernel
theorem dX12_bring_1 : decode cX12_bring 1 = .ok (.iload_n 1, 1) := by decide +kernel
theorem dX12_bring_2 : decode cX12_bring 2 = .ok (.invokevirtual 108, 3) := by decide +kernel
theorem dX12_bring_5 : decode cX12_bring 5 = .ok (.ifCond .eq 25, 3) := by decide +kernel
theorem dX12_bring_8 : decode cX12_bring 8 = .ok (.iload_n 2, 1) := by decide +kernel
theorem dX12_bring_9 : decode cX12_bring 9 = .ok (.iconst 0, 1) := by decide +kernel
theorem dX12_bring_10 : decode cX12_bring 10 = .ok (.iconst 2, 1) := by decide +kernel
theorem dX12_bring_11 : decode cX12_bring 11 = .ok (.invokestatic 75, 3) := by decide +kernel
theorem dX12_bring_14 : decode cX12_bring 14 = .ok (.ifCond .eq 16, 3) := by decide +kernel
theorem dX12_bring_17 : decode cX12_bring 17 = .ok (.iload_n 3, 1) := by decide +kernel
theorem dX12_bring_18 : decode cX12_bring 18 = .ok (.iconst 0, 1) := by decide +kernel
theorem dX12_bring_19 : decode cX12_bring 19 = .ok (.iconst 2, 1) := by decide +kernel
theorem dX12_bring_20 : decode cX12_bring 20 = .ok (.invokestatic 75, 3) := by decide +kernel
theorem dX12_bring_23 : decode cX12_bring 23 = .ok (.ifCond .eq 7, 3) := by decide +kernel
theorem dX12_bring_26 : decode cX12_bring 26 = .ok (.iconst 1, 1) := by decide +kernel
theorem dX12_bring_27 : decode cX12_bring 27 = .ok (.goto 4, 3) := by decide +kernel
theorem dX12_bring_30 : decode cX12_bring 30 = .ok (.iconst 0, 1) := by decide +kernel
theorem dX12_bring_31 : decode cX12_bring 31 = .ok (.istore 4, 2) := by decide +kernel
theorem dX12_bring_33 : decode cX12_bring 33 = .ok (.aload_n 0, 1) := by decide +kernel
theorem dX12_bring_34 : decode cX12_bring 34 = .ok (.iload 4, 2) := by decide +kernel
theorem dX12_bring_36 : decode cX12_bring 36 = .ok (.ifCond .eq 7, 3) := by decide +kernel
theorem dX12_bring_39 : decode cX12_bring 39 = .ok (.iconst 0, 1) := by decide +kernel
theorem dX12_bring_40 : decode cX12_bring 40 = .ok (.goto 4, 3) := by decide +kernel
theorem dX12_bring_43 : decode cX12_bring 43 = .ok (.iconst 1, 1) := by decide +kernel
theorem dX12_bring_44 : decode cX12_bring 44 = .ok (.invokevirtual 101, 3) := by decide +kernel
theorem dX12_bring_47 : decode cX12_bring 47 = .ok (.ifCond .ne 5, 3) := by decide +kernel
theorem dX12_bring_50 : decode cX12_bring 50 = .ok (.iconst 0, 1) := by decide +kernel
theorem dX12_bring_51 : decode cX12_bring 51 = .ok (.ireturn, 1) := by decide +kernel
theorem dX12_bring_52 : decode cX12_bring 52 = .ok (.aload_n 0, 1) := by decide +kernel
theorem dX12_bring_53 : decode cX12_bring 53 = .ok (.getfield 13, 3) := by decide +kernel
theorem dX12_bring_56 : decode cX12_bring 56 = .ok (.iconst 3, 1) := by decide +kernel
theorem dX12_bring_57 : decode cX12_bring 57 = .ok (.iload_n 1, 1) := by decide +kernel
theorem dX12_bring_58 : decode cX12_bring 58 = .ok (.imul, 1) := by decide +kernel
theorem dX12_bring_59 : decode cX12_bring 59 = .ok (.iload_n 2, 1) := by decide +kernel
theorem dX12_bring_60 : decode cX12_bring 60 = .ok (.iadd, 1) := by decide +kernel
theorem dX12_bring_61 : decode cX12_bring 61 = .ok (.iaload, 1) := by decide +kernel
theorem dX12_bring_62 : decode cX12_bring 62 = .ok (.iload_n 3, 1) := by decide +kernel
theorem dX12_bring_63 : decode cX12_bring 63 = .ok (.ishr, 1) := by decide +kernel
theorem dX12_bring_64 : decode cX12_bring 64 = .ok (.iconst 1, 1) := by decide +kernel
theorem dX12_bring_65 : decode cX12_bring 65 = .ok (.iand, 1) := by decide +kernel
theorem dX12_bring_66 : decode cX12_bring 66 = .ok (.iconst 1, 1) := by decide +kernel
theorem dX12_bring_67 : decode cX12_bring 67 = .ok (.if_icmp .ne 7, 3) := by decide +kernel
theorem dX12_bring_70 : decode cX12_bring 70 = .ok (.iconst 1, 1) := by decide +kernel
theorem dX12_bring_71 : decode cX12_bring 71 = .ok (.goto 4, 3) := by decide +kernel
theorem dX12_bring_74 : decode cX12_bring 74 = .ok (.iconst 0, 1) := by decide +kernel
theorem dX12_bring_75 : decode cX12_bring 75 = .ok (.istore 5, 2) := by decide +kernel
theorem dX12_bring_77 : decode cX12_bring 77 = .ok (.aload_n 0, 1) := by decide +kernel
theorem dX12_bring_78 : decode cX12_bring 78 = .ok (.getfield 13, 3) := by decide +kernel
theorem dX12_bring_81 : decode cX12_bring 81 = .ok (.iconst 3, 1) := by decide +kernel
theorem dX12_bring_82 : decode cX12_bring 82 = .ok (.iload_n 1, 1) := by decide +kernel
theorem dX12_bring_83 : decode cX12_bring 83 = .ok (.imul, 1) := by decide +kernel
theorem dX12_bring_84 : decode cX12_bring 84 = .ok (.iload_n 2, 1) := by decide +kernel
theorem dX12_bring_85 : decode cX12_bring 85 = .ok (.iadd, 1) := by decide +kernel
theorem dX12_bring_86 : decode cX12_bring 86 = .ok (.dup2, 1) := by decide +kernel
theorem dX12_bring_87 : decode cX12_bring 87 = .ok (.iaload, 1) := by decide +kernel
theorem dX12_bring_88 : decode cX12_bring 88 = .ok (.iconst 1, 1) := by decide +kernel
theorem dX12_bring_89 : decode cX12_bring 89 = .ok (.iload_n 3, 1) := by decide +kernel
theorem dX12_bring_90 : decode cX12_bring 90 = .ok (.ishl, 1) := by decide +kernel
theorem dX12_bring_91 : decode cX12_bring 91 = .ok (.ior, 1) := by decide +kernel
theorem dX12_bring_92 : decode cX12_bring 92 = .ok (.iastore, 1) := by decide +kernel
theorem dX12_bring_93 : decode cX12_bring 93 = .ok (.aload_n 0, 1) := by decide +kernel
theorem dX12_bring_94 : decode cX12_bring 94 = .ok (.iconst 0, 1) := by decide +kernel
theorem dX12_bring_95 : decode cX12_bring 95 = .ok (.putfield 104, 3) := by decide +kernel
theorem dX12_bring_98 : decode cX12_bring 98 = .ok (.iload 5, 2) := by decide +kernel
theorem dX12_bring_100 : decode cX12_bring 100 = .ok (.ifCond .ne 7, 3) := by decide +kernel
theorem dX12_bring_103 : decode cX12_bring 103 = .ok (.iconst 1, 1) := by decide +kernel
theorem dX12_bring_104 : decode cX12_bring 104 = .ok (.goto 4, 3) := by decide +kernel
theorem dX12_bring_107 : decode cX12_bring 107 = .ok (.iconst 0, 1) := by decide +kernel
theorem dX12_bring_108 : decode cX12_bring 108 = .ok (.ireturn, 1) := by decide +kernel
theorem dX12_addRange_0 : decode cX12_addRange 0 = .ok (.iconst 5, 1) := by decide +kernel
theorem dX12_addRange_1 : decode cX12_addRange 1 = .ok (.aload_n 0, 1) := by decide +kernel
theorem dX12_addRange_2 : decode cX12_addRange 2 = .ok (.getfield 82, 3) := by decide +kernel
theorem dX12_addRange_5 : decode cX12_addRange 5 = .ok (.imul, 1) := by decide +kernel
theorem dX12_addRange_6 : decode cX12_addRange 6 = .ok (.istore 6, 2) := by decide +kernel
theorem dX12_addRange_8 : decode cX12_addRange 8 = .ok (.aload_n 0, 1) := by decide +kernel
theorem dX12_addRange_9 : decode cX12_addRange 9 = .ok (.getfield 19, 3) := by decide +kernel
theorem dX12_addRange_12 : decode cX12_addRange 12 = .ok (.iload 6, 2) := by decide +kernel
theorem dX12_addRange_14 : decode cX12_addRange 14 = .ok (.iload_n 1, 1) := by decide +kernel
theorem dX12_addRange_15 : decode cX12_addRange 15 = .ok (.iastore, 1) := by decide +kernel
theorem dX12_addRange_16 : decode cX12_addRange 16 = .ok (.aload_n 0, 1) := by decide +kernel
theorem dX12_addRange_17 : decode cX12_addRange 17 = .ok (.getfield 19, 3) := by decide +kernel
theorem dX12_addRange_20 : decode cX12_addRange 20 = .ok (.iload 6, 2) := by decide +kernel
theorem dX12_addRange_22 : decode cX12_addRange 22 = .ok (.iconst 1, 1) := by decide +kernel
theorem dX12_addRange_23 : decode cX12_addRange 23 = .ok (.iadd, 1) := by decide +kernel
theorem dX12_addRange_24 : decode cX12_addRange 24 = .ok (.iload_n 2, 1) := by decide +kernel
theorem dX12_addRange_25 : decode cX12_addRange 25 = .ok (.iastore, 1) := by decide +kernel
theorem dX12_addRange_26 : decode cX12_addRange 26 = .ok (.aload_n 0, 1) := by decide +kernel
theorem dX12_addRange_27 : decode cX12_addRange 27 = .ok (.getfield 19, 3) := by decide +kernel
theorem dX12_addRange_30 : decode cX12_addRange 30 = .ok (.iload 6, 2) := by decide +kernel
theorem dX12_addRange_32 : decode cX12_addRange 32 = .ok (.iconst 2, 1) := by decide +kernel
theorem dX12_addRange_33 : decode cX12_addRange 33 = .ok (.iadd, 1) := by decide +kernel
theorem dX12_addRange_34 : decode cX12_addRange 34 = .ok (.iload_n 3, 1) := by decide +kernel
theorem dX12_addRange_35 : decode cX12_addRange 35 = .ok (.iastore, 1) := by decide +kernel
theorem dX12_addRange_36 : decode cX12_addRange 36 = .ok (.aload_n 0, 1) := by decide +kernel
theorem dX12_addRange_37 : decode cX12_addRange 37 = .ok (.getfield 19, 3) := by decide +kernel
theorem dX12_addRange_40 : decode cX12_addRange 40 = .ok (.iload 6, 2) := by decide +kernel
theorem dX12_addRange_42 : decode cX12_addRange 42 = .ok (.iconst 3, 1) := by decide +kernel
theorem dX12_addRange_43 : decode cX12_addRange 43 = .ok (.iadd, 1) := by decide +kernel
theorem dX12_addRange_44 : decode cX12_addRange 44 = .ok (.iload 4, 2) := by decide +kernel
theorem dX12_addRange_46 : decode cX12_addRange 46 = .ok (.iastore, 1) := by decide +kernel
theorem dX12_addRange_47 : decode cX12_addRange 47 = .ok (.aload_n 0, 1) := by decide +kernel
theorem dX12_addRange_48 : decode cX12_addRange 48 = .ok (.getfield 19, 3) := by decide +kernel
theorem dX12_addRange_51 : decode cX12_addRange 51 = .ok (.iload 6, 2) := by decide +kernel
theorem dX12_addRange_53 : decode cX12_addRange 53 = .ok (.iconst 4, 1) := by decide +kernel
theorem dX12_addRange_54 : decode cX12_addRange 54 = .ok (.iadd, 1) := by decide +kernel
theorem dX12_addRange_55 : decode cX12_addRange 55 = .ok (.iload 5, 2) := by decide +kernel
theorem dX12_addRange_57 : decode cX12_addRange 57 = .ok (.iastore, 1) := by decide +kernel
theorem dX12_addRange_58 : decode cX12_addRange 58 = .ok (.aload_n 0, 1) := by decide +kernel
theorem dX12_addRange_59 : decode cX12_addRange 59 = .ok (.dup, 1) := by decide +kernel
theorem dX12_addRange_60 : decode cX12_addRange 60 = .ok (.getfield 82, 3) := by decide +kernel
theorem dX12_addRange_63 : decode cX12_addRange 63 = .ok (.iconst 1, 1) := by decide +kernel
theorem dX12_addRange_64 : decode cX12_addRange 64 = .ok (.iadd, 1) := by decide +kernel
theorem dX12_addRange_65 : decode cX12_addRange 65 = .ok (.putfield 82, 3) := by decide +kernel
theorem dX12_addRange_68 : decode cX12_addRange 68 = .ok (.aload_n 0, 1) := by decide +kernel
theorem dX12_addRange_69 : decode cX12_addRange 69 = .ok (.aload_n 0, 1) := by decide +kernel
theorem dX12_addRange_70 : decode cX12_addRange 70 = .ok (.getfield 82, 3) := by decide +kernel
theorem dX12_addRange_73 : decode cX12_addRange 73 = .ok (.iconst 1, 1) := by decide +kernel
theorem dX12_addRange_74 : decode cX12_addRange 74 = .ok (.isub, 1) := by decide +kernel
theorem dX12_addRange_75 : decode cX12_addRange 75 = .ok (.invokevirtual 115, 3) := by decide +kernel
theorem dX12_addRange_78 : decode cX12_addRange 78 = .ok (.aload_n 0, 1) := by decide +kernel
theorem dX12_addRange_79 : decode cX12_addRange 79 = .ok (.getfield 82, 3) := by decide +kernel
theorem dX12_addRange_82 : decode cX12_addRange 82 = .ok (.iconst 1, 1) := by decide +kernel
theorem dX12_addRange_83 : decode cX12_addRange 83 = .ok (.isub, 1) := by decide +kernel
theorem dX12_addRange_84 : decode cX12_addRange 84 = .ok (.ireturn, 1) := by decide +kernel
theorem dX12_range_0 : decode cX12_range 0 = .ok (.iload_n 1, 1) := by decide +kernel
theorem dX12_range_1 : decode cX12_range 1 = .ok (.iconst 3, 1) := by decide +kernel
theorem dX12_range_2 : decode cX12_range 2 = .ok (.if_icmp .eq 7, 3) := by decide +kernel
theorem dX12_range_5 : decode cX12_range 5 = .ok (.iconst 1, 1) := by decide +kernel
theorem dX12_range_6 : decode cX12_range 6 = .ok (.goto 4, 3) := by decide +kernel
theorem dX12_range_9 : decode cX12_range 9 = .ok (.iconst 0, 1) := by decide +kernel
theorem dX12_range_10 : decode cX12_range 10 = .ok (.istore 6, 2) := by decide +kernel
theorem dX12_range_12 : decode cX12_range 12 = .ok (.iload 6, 2) := by decide +kernel
theorem dX12_range_14 : decode cX12_range 14 = .ok (.ifCond .eq 13, 3) := by decide +kernel
theorem dX12_range_17 : decode cX12_range 17 = .ok (.iload_n 1, 1) := by decide +kernel
theorem dX12_range_18 : decode cX12_range 18 = .ok (.bipush 6, 2) := by decide +kernel
theorem dX12_range_20 : decode cX12_range 20 = .ok (.if_icmp .eq 7, 3) := by decide +kernel
theorem dX12_range_23 : decode cX12_range 23 = .ok (.iconst 1, 1) := by decide +kernel
theorem dX12_range_24 : decode cX12_range 24 = .ok (.goto 4, 3) := by decide +kernel
theorem dX12_range_27 : decode cX12_range 27 = .ok (.iconst 0, 1) := by decide +kernel
theorem dX12_range_28 : decode cX12_range 28 = .ok (.istore 7, 2) := by decide +kernel
theorem dX12_range_30 : decode cX12_range 30 = .ok (.iload 7, 2) := by decide +kernel
theorem dX12_range_32 : decode cX12_range 32 = .ok (.ifCond .eq 13, 3) := by decide +kernel
theorem dX12_range_35 : decode cX12_range 35 = .ok (.iload_n 1, 1) := by decide +kernel
theorem dX12_range_36 : decode cX12_range 36 = .ok (.bipush 7, 2) := by decide +kernel
theorem dX12_range_38 : decode cX12_range 38 = .ok (.if_icmp .eq 7, 3) := by decide +kernel
theorem dX12_range_41 : decode cX12_range 41 = .ok (.iconst 1, 1) := by decide +kernel
theorem dX12_range_42 : decode cX12_range 42 = .ok (.goto 4, 3) := by decide +kernel
theorem dX12_range_45 : decode cX12_range 45 = .ok (.iconst 0, 1) := by decide +kernel
theorem dX12_range_46 : decode cX12_range 46 = .ok (.istore 8, 2) := by decide +kernel
theorem dX12_range_48 : decode cX12_range 48 = .ok (.iload_n 2, 1) := by decide +kernel
theorem dX12_range_49 : decode cX12_range 49 = .ok (.iconst 0, 1) := by decide +kernel
theorem dX12_range_50 : decode cX12_range 50 = .ok (.iload 6, 2) := by decide +kernel
theorem dX12_range_52 : decode cX12_range 52 = .ok (.ifCond .eq 8, 3) := by decide +kernel
theorem dX12_range_55 : decode cX12_range 55 = .ok (.bipush 9, 2) := by decide +kernel
theorem dX12_range_57 : decode cX12_range 57 = .ok (.goto 4, 3) := by decide +kernel
theorem dX12_range_60 : decode cX12_range 60 = .ok (.iconst 0, 1) := by decide +kernel
theorem dX12_range_61 : decode cX12_range 61 = .ok (.invokestatic 75, 3) := by decide +kernel
theorem dX12_range_64 : decode cX12_range 64 = .ok (.ifCond .eq 66, 3) := by decide +kernel
theorem dX12_range_67 : decode cX12_range 67 = .ok (.iload_n 3, 1) := by decide +kernel
theorem dX12_range_68 : decode cX12_range 68 = .ok (.iconst 0, 1) := by decide +kernel
theorem dX12_range_69 : decode cX12_range 69 = .ok (.iload 7, 2) := by decide +kernel
theorem dX12_range_71 : decode cX12_range 71 = .ok (.ifCond .eq 8, 3) := by decide +kernel
theorem dX12_range_74 : decode cX12_range 74 = .ok (.bipush 9, 2) := by decide +kernel
theorem dX12_range_76 : decode cX12_range 76 = .ok (.goto 4, 3) := by decide +kernel
theorem dX12_range_79 : decode cX12_range 79 = .ok (.iconst 0, 1) := by decide +kernel
theorem dX12_range_80 : decode cX12_range 80 = .ok (.invokestatic 75, 3) := by decide +kernel
theorem dX12_range_83 : decode cX12_range 83 = .ok (.ifCond .eq 47, 3) := by decide +kernel
theorem dX12_range_86 : decode cX12_range 86 = .ok (.iload 4, 2) := by decide +kernel
theorem dX12_range_88 : decode cX12_range 88 = .ok (.iconst 0, 1) := by decide +kernel
theorem dX12_range_89 : decode cX12_range 89 = .ok (.iload 8, 2) := by decide +kernel
theorem dX12_range_91 : decode cX12_range 91 = .ok (.ifCond .eq 8, 3) := by decide +kernel
theorem dX12_range_94 : decode cX12_range 94 = .ok (.bipush 9, 2) := by decide +kernel
theorem dX12_range_96 : decode cX12_range 96 = .ok (.goto 4, 3) := by decide +kernel
theorem dX12_range_99 : decode cX12_range 99 = .ok (.iconst 0, 1) := by decide +kernel
theorem dX12_range_100 : decode cX12_range 100 = .ok (.invokestatic 75, 3) := by decide +kernel
theorem dX12_range_103 : decode cX12_range 103 = .ok (.ifCond .eq 27, 3) := by decide +kernel
theorem dX12_range_106 : decode cX12_range 106 = .ok (.iload 5, 2) := by decide +kernel
theorem dX12_range_108 : decode cX12_range 108 = .ok (.iconst 0, 1) := by decide +kernel
theorem dX12_range_109 : decode cX12_range 109 = .ok (.iload 8, 2) := by decide +kernel
theorem dX12_range_111 : decode cX12_range 111 = .ok (.ifCond .eq 8, 3) := by decide +kernel
theorem dX12_range_114 : decode cX12_range 114 = .ok (.bipush 9, 2) := by decide +kernel
theorem dX12_range_116 : decode cX12_range 116 = .ok (.goto 4, 3) := by decide +kernel
theorem dX12_range_119 : decode cX12_range 119 = .ok (.iconst 0, 1) := by decide +kernel
theorem dX12_range_120 : decode cX12_range 120 = .ok (.invokestatic 75, 3) := by decide +kernel
theorem dX12_range_123 : decode cX12_range 123 = .ok (.ifCond .eq 7, 3) := by decide +kernel
theorem dX12_range_126 : decode cX12_range 126 = .ok (.iconst 1, 1) := by decide +kernel
theorem dX12_range_127 : decode cX12_range 127 = .ok (.goto 4, 3) := by decide +kernel
theorem dX12_range_130 : decode cX12_range 130 = .ok (.iconst 0, 1) := by decide +kernel
theorem dX12_range_131 : decode cX12_range 131 = .ok (.istore 9, 2) := by decide +kernel
theorem dX12_range_133 : decode cX12_range 133 = .ok (.aload_n 0, 1) := by decide +kernel
theorem dX12_range_134 : decode cX12_range 134 = .ok (.iload_n 1, 1) := by decide +kernel
theorem dX12_range_135 : decode cX12_range 135 = .ok (.iconst 0, 1) := by decide +kernel
theorem dX12_range_136 : decode cX12_range 136 = .ok (.bipush 7, 2) := by decide +kernel
theorem dX12_range_138 : decode cX12_range 138 = .ok (.invokestatic 75, 3) := by decide +kernel
theorem dX12_range_141 : decode cX12_range 141 = .ok (.ifCond .ne 7, 3) := by decide +kernel
theorem dX12_range_144 : decode cX12_range 144 = .ok (.iconst 1, 1) := by decide +kernel
theorem dX12_range_145 : decode cX12_range 145 = .ok (.goto 26, 3) := by decide +kernel
theorem dX12_range_148 : decode cX12_range 148 = .ok (.iload 9, 2) := by decide +kernel
theorem dX12_range_150 : decode cX12_range 150 = .ok (.ifCond .ne 7, 3) := by decide +kernel
theorem dX12_range_153 : decode cX12_range 153 = .ok (.iconst 2, 1) := by decide +kernel
theorem dX12_range_154 : decode cX12_range 154 = .ok (.goto 17, 3) := by decide +kernel
theorem dX12_range_157 : decode cX12_range 157 = .ok (.aload_n 0, 1) := by decide +kernel
theorem dX12_range_158 : decode cX12_range 158 = .ok (.getfield 82, 3) := by decide +kernel
theorem dX12_range_161 : decode cX12_range 161 = .ok (.bipush 30, 2) := by decide +kernel
theorem dX12_range_163 : decode cX12_range 163 = .ok (.if_icmp .ne 7, 3) := by decide +kernel
theorem dX12_range_166 : decode cX12_range 166 = .ok (.iconst 3, 1) := by decide +kernel
theorem dX12_range_167 : decode cX12_range 167 = .ok (.goto 4, 3) := by decide +kernel
theorem dX12_range_170 : decode cX12_range 170 = .ok (.iconst 0, 1) := by decide +kernel
theorem dX12_range_171 : decode cX12_range 171 = .ok (.invokevirtual 101, 3) := by decide +kernel
theorem dX12_range_174 : decode cX12_range 174 = .ok (.ifCond .eq 17, 3) := by decide +kernel
theorem dX12_range_177 : decode cX12_range 177 = .ok (.aload_n 0, 1) := by decide +kernel
theorem dX12_range_178 : decode cX12_range 178 = .ok (.iload_n 1, 1) := by decide +kernel
theorem dX12_range_179 : decode cX12_range 179 = .ok (.iload_n 2, 1) := by decide +kernel
theorem dX12_range_180 : decode cX12_range 180 = .ok (.iload_n 3, 1) := by decide +kernel
theorem dX12_range_181 : decode cX12_range 181 = .ok (.iload 4, 2) := by decide +kernel
theorem dX12_range_183 : decode cX12_range 183 = .ok (.iload 5, 2) := by decide +kernel
theorem dX12_range_185 : decode cX12_range 185 = .ok (.invokevirtual 119, 3) := by decide +kernel
theorem dX12_range_188 : decode cX12_range 188 = .ok (.goto 4, 3) := by decide +kernel
theorem dX12_range_191 : decode cX12_range 191 = .ok (.iconst 0, 1) := by decide +kernel
theorem dX12_range_192 : decode cX12_range 192 = .ok (.ireturn, 1) := by decide +kernel
theorem dX12_join_0 : decode cX12_join 0 = .ok (.iload_n 1, 1) := by decide +kernel
theorem dX12_join_1 : decode cX12_join 1 = .ok (.bipush 8, 2) := by decide +kernel
theorem dX12_join_3 : decode cX12_join 3 = .ok (.bipush 9, 2) := by decide +kernel
theorem dX12_join_5 : decode cX12_join 5 = .ok (.invokestatic 75, 3) := by decide +kernel
theorem dX12_join_8 : decode cX12_join 8 = .ok (.ifCond .eq 23, 3) := by decide +kernel
theorem dX12_join_11 : decode cX12_join 11 = .ok (.aload_n 0, 1) := by decide +kernel
theorem dX12_join_12 : decode cX12_join 12 = .ok (.iload_n 2, 1) := by decide +kernel
theorem dX12_join_13 : decode cX12_join 13 = .ok (.invokevirtual 122, 3) := by decide +kernel
theorem dX12_join_16 : decode cX12_join 16 = .ok (.ifCond .eq 15, 3) := by decide +kernel
theorem dX12_join_19 : decode cX12_join 19 = .ok (.aload_n 0, 1) := by decide +kernel
theorem dX12_join_20 : decode cX12_join 20 = .ok (.iload_n 3, 1) := by decide +kernel
theorem dX12_join_21 : decode cX12_join 21 = .ok (.invokevirtual 122, 3) := by decide +kernel
theorem dX12_join_24 : decode cX12_join 24 = .ok (.ifCond .eq 7, 3) := by decide +kernel
theorem dX12_join_27 : decode cX12_join 27 = .ok (.iconst 1, 1) := by decide +kernel
theorem dX12_join_28 : decode cX12_join 28 = .ok (.goto 4, 3) := by decide +kernel
theorem dX12_join_31 : decode cX12_join 31 = .ok (.iconst 0, 1) := by decide +kernel
theorem dX12_join_32 : decode cX12_join 32 = .ok (.istore 4, 2) := by decide +kernel
theorem dX12_join_34 : decode cX12_join 34 = .ok (.aload_n 0, 1) := by decide +kernel
theorem dX12_join_35 : decode cX12_join 35 = .ok (.iload 4, 2) := by decide +kernel
theorem dX12_join_37 : decode cX12_join 37 = .ok (.ifCond .ne 7, 3) := by decide +kernel
theorem dX12_join_40 : decode cX12_join 40 = .ok (.iconst 1, 1) := by decide +kernel
theorem dX12_join_41 : decode cX12_join 41 = .ok (.goto 17, 3) := by decide +kernel
theorem dX12_join_44 : decode cX12_join 44 = .ok (.aload_n 0, 1) := by decide +kernel
theorem dX12_join_45 : decode cX12_join 45 = .ok (.getfield 82, 3) := by decide +kernel
theorem dX12_join_48 : decode cX12_join 48 = .ok (.bipush 30, 2) := by decide +kernel
theorem dX12_join_50 : decode cX12_join 50 = .ok (.if_icmp .ne 7, 3) := by decide +kernel
theorem dX12_join_53 : decode cX12_join 53 = .ok (.iconst 2, 1) := by decide +kernel
theorem dX12_join_54 : decode cX12_join 54 = .ok (.goto 4, 3) := by decide +kernel
theorem dX12_join_57 : decode cX12_join 57 = .ok (.iconst 0, 1) := by decide +kernel
theorem dX12_join_58 : decode cX12_join 58 = .ok (.invokevirtual 101, 3) := by decide +kernel
theorem dX12_join_61 : decode cX12_join 61 = .ok (.ifCond .eq 15, 3) := by decide +kernel
theorem dX12_join_64 : decode cX12_join 64 = .ok (.aload_n 0, 1) := by decide +kernel
theorem dX12_join_65 : decode cX12_join 65 = .ok (.iload_n 1, 1) := by decide +kernel
theorem dX12_join_66 : decode cX12_join 66 = .ok (.iload_n 2, 1) := by decide +kernel
theorem dX12_join_67 : decode cX12_join 67 = .ok (.iload_n 3, 1) := by decide +kernel
theorem dX12_join_68 : decode cX12_join 68 = .ok (.iconst 0, 1) := by decide +kernel
theorem dX12_join_69 : decode cX12_join 69 = .ok (.iconst 0, 1) := by decide +kernel
theorem dX12_join_70 : decode cX12_join 70 = .ok (.invokevirtual 119, 3) := by decide +kernel
theorem dX12_join_73 : decode cX12_join 73 = .ok (.goto 4, 3) := by decide +kernel
theorem dX12_join_76 : decode cX12_join 76 = .ok (.iconst 0, 1) := by decide +kernel
theorem dX12_join_77 : decode cX12_join 77 = .ok (.ireturn, 1) := by decide +kernel
theorem dX12_has_0 : decode cX12_has 0 = .ok (.aload_n 0, 1) := by decide +kernel
theorem dX12_has_1 : decode cX12_has 1 = .ok (.aload_n 0, 1) := by decide +kernel
theorem dX12_has_2 : decode cX12_has 2 = .ok (.iload_n 1, 1) := by decide +kernel
theorem dX12_has_3 : decode cX12_has 3 = .ok (.invokevirtual 122, 3) := by decide +kernel
theorem dX12_has_6 : decode cX12_has 6 = .ok (.ifCond .eq 15, 3) := by decide +kernel
theorem dX12_has_9 : decode cX12_has 9 = .ok (.aload_n 0, 1) := by decide +kernel
theorem dX12_has_10 : decode cX12_has 10 = .ok (.iload_n 2, 1) := by decide +kernel
theorem dX12_has_11 : decode cX12_has 11 = .ok (.invokevirtual 108, 3) := by decide +kernel
theorem dX12_has_14 : decode cX12_has 14 = .ok (.ifCond .eq 7, 3) := by decide +kernel
theorem dX12_has_17 : decode cX12_has 17 = .ok (.iconst 0, 1) := by decide +kernel
theorem dX12_has_18 : decode cX12_has 18 = .ok (.goto 4, 3) := by decide +kernel
theorem dX12_has_21 : decode cX12_has 21 = .ok (.iconst 1, 1) := by decide +kernel
theorem dX12_has_22 : decode cX12_has 22 = .ok (.invokevirtual 101, 3) := by decide +kernel
theorem dX12_has_25 : decode cX12_has 25 = .ok (.ifCond .eq 21, 3) := by decide +kernel
theorem dX12_has_28 : decode cX12_has 28 = .ok (.aload_n 0, 1) := by decide +kernel
theorem dX12_has_29 : decode cX12_has 29 = .ok (.getfield 22, 3) := by decide +kernel
theorem dX12_has_32 : decode cX12_has 32 = .ok (.bipush 24, 2) := by decide +kernel
theorem dX12_has_34 : decode cX12_has 34 = .ok (.iload_n 1, 1) := by decide +kernel
theorem dX12_has_35 : decode cX12_has 35 = .ok (.imul, 1) := by decide +kernel
theorem dX12_has_36 : decode cX12_has 36 = .ok (.iload_n 2, 1) := by decide +kernel
theorem dX12_has_37 : decode cX12_has 37 = .ok (.iadd, 1) := by decide +kernel
theorem dX12_has_38 : decode cX12_has 38 = .ok (.baload, 1) := by decide +kernel
theorem dX12_has_39 : decode cX12_has 39 = .ok (.ifCond .eq 7, 3) := by decide +kernel
theorem dX12_has_42 : decode cX12_has 42 = .ok (.iconst 1, 1) := by decide +kernel
theorem dX12_has_43 : decode cX12_has 43 = .ok (.goto 4, 3) := by decide +kernel
theorem dX12_has_46 : decode cX12_has 46 = .ok (.iconst 0, 1) := by decide +kernel
theorem dX12_has_47 : decode cX12_has 47 = .ok (.ireturn, 1) := by decide +kernel
theorem dX12_need_0 : decode cX12_need 0 = .ok (.aload_n 0, 1) := by decide +kernel
theorem dX12_need_1 : decode cX12_need 1 = .ok (.iload_n 1, 1) := by decide +kernel
theorem dX12_need_2 : decode cX12_need 2 = .ok (.invokevirtual 108, 3) := by decide +kernel
theorem dX12_need_5 : decode cX12_need 5 = .ok (.ifCond .eq 42, 3) := by decide +kernel
theorem dX12_need_8 : decode cX12_need 8 = .ok (.iload_n 2, 1) := by decide +kernel
theorem dX12_need_9 : decode cX12_need 9 = .ok (.invokestatic 93, 3) := by decide +kernel
theorem dX12_need_12 : decode cX12_need 12 = .ok (.ifCond .eq 35, 3) := by decide +kernel
theorem dX12_need_15 : decode cX12_need 15 = .ok (.aload_n 0, 1) := by decide +kernel
theorem dX12_need_16 : decode cX12_need 16 = .ok (.iload_n 3, 1) := by decide +kernel
theorem dX12_need_17 : decode cX12_need 17 = .ok (.invokevirtual 122, 3) := by decide +kernel
theorem dX12_need_20 : decode cX12_need 20 = .ok (.ifCond .eq 27, 3) := by decide +kernel
theorem dX12_need_23 : decode cX12_need 23 = .ok (.iload 4, 2) := by decide +kernel
theorem dX12_need_25 : decode cX12_need 25 = .ok (.iconst 0, 1) := by decide +kernel
theorem dX12_need_26 : decode cX12_need 26 = .ok (.iconst 2, 1) := by decide +kernel
theorem dX12_need_27 : decode cX12_need 27 = .ok (.invokestatic 75, 3) := by decide +kernel
theorem dX12_need_30 : decode cX12_need 30 = .ok (.ifCond .eq 17, 3) := by decide +kernel
theorem dX12_need_33 : decode cX12_need 33 = .ok (.iload 5, 2) := by decide +kernel
theorem dX12_need_35 : decode cX12_need 35 = .ok (.iconst (-1), 1) := by decide +kernel
theorem dX12_need_36 : decode cX12_need 36 = .ok (.iconst 2, 1) := by decide +kernel
theorem dX12_need_37 : decode cX12_need 37 = .ok (.invokestatic 75, 3) := by decide +kernel
theorem dX12_need_40 : decode cX12_need 40 = .ok (.ifCond .eq 7, 3) := by decide +kernel
theorem dX12_need_43 : decode cX12_need 43 = .ok (.iconst 1, 1) := by decide +kernel
theorem dX12_need_44 : decode cX12_need 44 = .ok (.goto 4, 3) := by decide +kernel
theorem dX12_need_47 : decode cX12_need 47 = .ok (.iconst 0, 1) := by decide +kernel
theorem dX12_need_48 : decode cX12_need 48 = .ok (.istore 8, 2) := by decide +kernel
theorem dX12_need_50 : decode cX12_need 50 = .ok (.iload 6, 2) := by decide +kernel
theorem dX12_need_52 : decode cX12_need 52 = .ok (.iconst 0, 1) := by decide +kernel
theorem dX12_need_53 : decode cX12_need 53 = .ok (.bipush 7, 2) := by decide +kernel
theorem dX12_need_55 : decode cX12_need 55 = .ok (.invokestatic 75, 3) := by decide +kernel
theorem dX12_need_58 : decode cX12_need 58 = .ok (.ifCond .eq 18, 3) := by decide +kernel
theorem dX12_need_61 : decode cX12_need 61 = .ok (.iload 7, 2) := by decide +kernel
theorem dX12_need_63 : decode cX12_need 63 = .ok (.iconst 0, 1) := by decide +kernel
theorem dX12_need_64 : decode cX12_need 64 = .ok (.bipush 7, 2) := by decide +kernel
theorem dX12_need_66 : decode cX12_need 66 = .ok (.invokestatic 75, 3) := by decide +kernel
theorem dX12_need_69 : decode cX12_need 69 = .ok (.ifCond .eq 7, 3) := by decide +kernel
theorem dX12_need_72 : decode cX12_need 72 = .ok (.iconst 1, 1) := by decide +kernel
theorem dX12_need_73 : decode cX12_need 73 = .ok (.goto 4, 3) := by decide +kernel
theorem dX12_need_76 : decode cX12_need 76 = .ok (.iconst 0, 1) := by decide +kernel
theorem dX12_need_77 : decode cX12_need 77 = .ok (.istore 9, 2) := by decide +kernel
theorem dX12_need_79 : decode cX12_need 79 = .ok (.iload 8, 2) := by decide +kernel
theorem dX12_need_81 : decode cX12_need 81 = .ok (.ifCond .eq 18, 3) := by decide +kernel
theorem dX12_need_84 : decode cX12_need 84 = .ok (.aload_n 0, 1) := by decide +kernel
theorem dX12_need_85 : decode cX12_need 85 = .ok (.getfield 7, 3) := by decide +kernel
theorem dX12_need_88 : decode cX12_need 88 = .ok (.bipush 9, 2) := by decide +kernel
theorem dX12_need_90 : decode cX12_need 90 = .ok (.iload_n 1, 1) := by decide +kernel
theorem dX12_need_91 : decode cX12_need 91 = .ok (.imul, 1) := by decide +kernel
theorem dX12_need_92 : decode cX12_need 92 = .ok (.bipush 8, 2) := by decide +kernel
theorem dX12_need_94 : decode cX12_need 94 = .ok (.iadd, 1) := by decide +kernel
theorem dX12_need_95 : decode cX12_need 95 = .ok (.iaload, 1) := by decide +kernel
theorem dX12_need_96 : decode cX12_need 96 = .ok (.goto 4, 3) := by decide +kernel
theorem dX12_need_99 : decode cX12_need 99 = .ok (.iconst 0, 1) := by decide +kernel
theorem dX12_need_100 : decode cX12_need 100 = .ok (.istore 10, 2) := by decide +kernel
theorem dX12_need_102 : decode cX12_need 102 = .ok (.aload_n 0, 1) := by decide +kernel
theorem dX12_need_103 : decode cX12_need 103 = .ok (.iload 8, 2) := by decide +kernel
theorem dX12_need_105 : decode cX12_need 105 = .ok (.ifCond .ne 7, 3) := by decide +kernel
theorem dX12_need_108 : decode cX12_need 108 = .ok (.iconst 1, 1) := by decide +kernel
theorem dX12_need_109 : decode cX12_need 109 = .ok (.goto 23, 3) := by decide +kernel
theorem dX12_need_112 : decode cX12_need 112 = .ok (.iload 9, 2) := by decide +kernel
theorem dX12_need_114 : decode cX12_need 114 = .ok (.ifCond .ne 7, 3) := by decide +kernel
theorem dX12_need_117 : decode cX12_need 117 = .ok (.iconst 2, 1) := by decide +kernel
theorem dX12_need_118 : decode cX12_need 118 = .ok (.goto 14, 3) := by decide +kernel
theorem dX12_need_121 : decode cX12_need 121 = .ok (.iload 10, 2) := by decide +kernel
theorem dX12_need_123 : decode cX12_need 123 = .ok (.iconst 5, 1) := by decide +kernel
theorem dX12_need_124 : decode cX12_need 124 = .ok (.if_icmp .ne 7, 3) := by decide +kernel
theorem dX12_need_127 : decode cX12_need 127 = .ok (.iconst 3, 1) := by decide +kernel
theorem dX12_need_128 : decode cX12_need 128 = .ok (.goto 4, 3) := by decide +kernel
theorem dX12_need_131 : decode cX12_need 131 = .ok (.iconst 0, 1) := by decide +kernel
theorem dX12_need_132 : decode cX12_need 132 = .ok (.invokevirtual 101, 3) := by decide +kernel
theorem dX12_need_135 : decode cX12_need 135 = .ok (.ifCond .ne 5, 3) := by decide +kernel
theorem dX12_need_138 : decode cX12_need 138 = .ok (.iconst 0, 1) := by decide +kernel
theorem dX12_need_139 : decode cX12_need 139 = .ok (.ireturn, 1) := by decide +kernel
theorem dX12_need_140 : decode cX12_need 140 = .ok (.bipush 6, 2) := by decide +kernel
theorem dX12_need_142 : decode cX12_need 142 = .ok (.iconst 5, 1) := by decide +kernel
theorem dX12_need_143 : decode cX12_need 143 = .ok (.iload_n 1, 1) := by decide +kernel
theorem dX12_need_144 : decode cX12_need 144 = .ok (.imul, 1) := by decide +kernel
theorem dX12_need_145 : decode cX12_need 145 = .ok (.iload 10, 2) := by decide +kernel
theorem dX12_need_147 : decode cX12_need 147 = .ok (.iadd, 1) := by decide +kernel
theorem dX12_need_148 : decode cX12_need 148 = .ok (.imul, 1) := by decide +kernel
theorem dX12_need_149 : decode cX12_need 149 = .ok (.istore 11, 2) := by decide +kernel
theorem dX12_need_151 : decode cX12_need 151 = .ok (.aload_n 0, 1) := by decide +kernel
theorem dX12_need_152 : decode cX12_need 152 = .ok (.getfield 16, 3) := by decide +kernel
theorem dX12_need_155 : decode cX12_need 155 = .ok (.iload 11, 2) := by decide +kernel
theorem dX12_need_157 : decode cX12_need 157 = .ok (.iload_n 2, 1) := by decide +kernel
theorem dX12_need_158 : decode cX12_need 158 = .ok (.iastore, 1) := by decide +kernel
theorem dX12_need_159 : decode cX12_need 159 = .ok (.aload_n 0, 1) := by decide +kernel
theorem dX12_need_160 : decode cX12_need 160 = .ok (.getfield 16, 3) := by decide +kernel
theorem dX12_need_163 : decode cX12_need 163 = .ok (.iload 11, 2) := by decide +kernel
theorem dX12_need_165 : decode cX12_need 165 = .ok (.iconst 1, 1) := by decide +kernel
theorem dX12_need_166 : decode cX12_need 166 = .ok (.iadd, 1) := by decide +kernel
theorem dX12_need_167 : decode cX12_need 167 = .ok (.iload_n 3, 1) := by decide +kernel
theorem dX12_need_168 : decode cX12_need 168 = .ok (.iastore, 1) := by decide +kernel
theorem dX12_need_169 : decode cX12_need 169 = .ok (.aload_n 0, 1) := by decide +kernel
theorem dX12_need_170 : decode cX12_need 170 = .ok (.getfield 16, 3) := by decide +kernel
theorem dX12_need_173 : decode cX12_need 173 = .ok (.iload 11, 2) := by decide +kernel
theorem dX12_need_175 : decode cX12_need 175 = .ok (.iconst 2, 1) := by decide +kernel
theorem dX12_need_176 : decode cX12_need 176 = .ok (.iadd, 1) := by decide +kernel
theorem dX12_need_177 : decode cX12_need 177 = .ok (.iload 4, 2) := by decide +kernel
theorem dX12_need_179 : decode cX12_need 179 = .ok (.iastore, 1) := by decide +kernel
theorem dX12_need_180 : decode cX12_need 180 = .ok (.aload_n 0, 1) := by decide +kernel
theorem dX12_need_181 : decode cX12_need 181 = .ok (.getfield 16, 3) := by decide +kernel
theorem dX12_need_184 : decode cX12_need 184 = .ok (.iload 11, 2) := by decide +kernel
theorem dX12_need_186 : decode cX12_need 186 = .ok (.iconst 3, 1) := by decide +kernel
theorem dX12_need_187 : decode cX12_need 187 = .ok (.iadd, 1) := by decide +kernel
theorem dX12_need_188 : decode cX12_need 188 = .ok (.iload 5, 2) := by decide +kernel
theorem dX12_need_190 : decode cX12_need 190 = .ok (.iastore, 1) := by decide +kernel
theorem dX12_need_191 : decode cX12_need 191 = .ok (.aload_n 0, 1) := by decide +kernel
theorem dX12_need_192 : decode cX12_need 192 = .ok (.getfield 16, 3) := by decide +kernel
theorem dX12_need_195 : decode cX12_need 195 = .ok (.iload 11, 2) := by decide +kernel
theorem dX12_need_197 : decode cX12_need 197 = .ok (.iconst 4, 1) := by decide +kernel
theorem dX12_need_198 : decode cX12_need 198 = .ok (.iadd, 1) := by decide +kernel
theorem dX12_need_199 : decode cX12_need 199 = .ok (.iload 6, 2) := by decide +kernel
theorem dX12_need_201 : decode cX12_need 201 = .ok (.iastore, 1) := by decide +kernel
theorem dX12_need_202 : decode cX12_need 202 = .ok (.aload_n 0, 1) := by decide +kernel
theorem dX12_need_203 : decode cX12_need 203 = .ok (.getfield 16, 3) := by decide +kernel
theorem dX12_need_206 : decode cX12_need 206 = .ok (.iload 11, 2) := by decide +kernel
theorem dX12_need_208 : decode cX12_need 208 = .ok (.iconst 5, 1) := by decide +kernel
theorem dX12_need_209 : decode cX12_need 209 = .ok (.iadd, 1) := by decide +kernel
theorem dX12_need_210 : decode cX12_need 210 = .ok (.iload 7, 2) := by decide +kernel
theorem dX12_need_212 : decode cX12_need 212 = .ok (.iastore, 1) := by decide +kernel
theorem dX12_need_213 : decode cX12_need 213 = .ok (.aload_n 0, 1) := by decide +kernel
theorem dX12_need_214 : decode cX12_need 214 = .ok (.getfield 7, 3) := by decide +kernel
theorem dX12_need_217 : decode cX12_need 217 = .ok (.bipush 9, 2) := by decide +kernel
theorem dX12_need_219 : decode cX12_need 219 = .ok (.iload_n 1, 1) := by decide +kernel
theorem dX12_need_220 : decode cX12_need 220 = .ok (.imul, 1) := by decide +kernel
theorem dX12_need_221 : decode cX12_need 221 = .ok (.bipush 8, 2) := by decide +kernel
theorem dX12_need_223 : decode cX12_need 223 = .ok (.iadd, 1) := by decide +kernel
theorem dX12_need_224 : decode cX12_need 224 = .ok (.dup2, 1) := by decide +kernel
theorem dX12_need_225 : decode cX12_need 225 = .ok (.iaload, 1) := by decide +kernel
theorem dX12_need_226 : decode cX12_need 226 = .ok (.iconst 1, 1) := by decide +kernel
theorem dX12_need_227 : decode cX12_need 227 = .ok (.iadd, 1) := by decide +kernel
theorem dX12_need_228 : decode cX12_need 228 = .ok (.iastore, 1) := by decide +kernel
theorem dX12_need_229 : decode cX12_need 229 = .ok (.aload_n 0, 1) := by decide +kernel
theorem dX12_need_230 : decode cX12_need 230 = .ok (.iconst 0, 1) := by decide +kernel
theorem dX12_need_231 : decode cX12_need 231 = .ok (.putfield 104, 3) := by decide +kernel
theorem dX12_need_234 : decode cX12_need 234 = .ok (.iload 10, 2) := by decide +kernel
theorem dX12_need_236 : decode cX12_need 236 = .ok (.iconst 1, 1) := by decide +kernel
theorem dX12_need_237 : decode cX12_need 237 = .ok (.iadd, 1) := by decide +kernel
theorem dX12_need_238 : decode cX12_need 238 = .ok (.ireturn, 1) := by decide +kernel
theorem dX12_demand_0 : decode cX12_demand 0 = .ok (.iload_n 1, 1) := by decide +kernel
theorem dX12_demand_1 : decode cX12_demand 1 = .ok (.iconst 0, 1) := by decide +kernel
theorem dX12_demand_2 : decode cX12_demand 2 = .ok (.iconst 2, 1) := by decide +kernel
theorem dX12_demand_3 : decode cX12_demand 3 = .ok (.invokestatic 75, 3) := by decide +kernel
theorem dX12_demand_6 : decode cX12_demand 6 = .ok (.ifCond .eq 22, 3) := by decide +kernel
theorem dX12_demand_9 : decode cX12_demand 9 = .ok (.iload_n 2, 1) := by decide +kernel
theorem dX12_demand_10 : decode cX12_demand 10 = .ok (.invokestatic 93, 3) := by decide +kernel
theorem dX12_demand_13 : decode cX12_demand 13 = .ok (.ifCond .eq 15, 3) := by decide +kernel
theorem dX12_demand_16 : decode cX12_demand 16 = .ok (.aload_n 0, 1) := by decide +kernel
theorem dX12_demand_17 : decode cX12_demand 17 = .ok (.iload_n 3, 1) := by decide +kernel
theorem dX12_demand_18 : decode cX12_demand 18 = .ok (.invokevirtual 122, 3) := by decide +kernel
theorem dX12_demand_21 : decode cX12_demand 21 = .ok (.ifCond .eq 7, 3) := by decide +kernel
theorem dX12_demand_24 : decode cX12_demand 24 = .ok (.iconst 1, 1) := by decide +kernel
theorem dX12_demand_25 : decode cX12_demand 25 = .ok (.goto 4, 3) := by decide +kernel
theorem dX12_demand_28 : decode cX12_demand 28 = .ok (.iconst 0, 1) := by decide +kernel
theorem dX12_demand_29 : decode cX12_demand 29 = .ok (.istore 5, 2) := by decide +kernel
theorem dX12_demand_31 : decode cX12_demand 31 = .ok (.aload_n 0, 1) := by decide +kernel
theorem dX12_demand_32 : decode cX12_demand 32 = .ok (.iload 5, 2) := by decide +kernel
theorem dX12_demand_34 : decode cX12_demand 34 = .ok (.ifCond .ne 7, 3) := by decide +kernel
theorem dX12_demand_37 : decode cX12_demand 37 = .ok (.iconst 1, 1) := by decide +kernel
theorem dX12_demand_38 : decode cX12_demand 38 = .ok (.goto 32, 3) := by decide +kernel
theorem dX12_demand_41 : decode cX12_demand 41 = .ok (.iload 4, 2) := by decide +kernel
theorem dX12_demand_43 : decode cX12_demand 43 = .ok (.iconst 0, 1) := by decide +kernel
theorem dX12_demand_44 : decode cX12_demand 44 = .ok (.bipush 7, 2) := by decide +kernel
theorem dX12_demand_46 : decode cX12_demand 46 = .ok (.invokestatic 75, 3) := by decide +kernel
theorem dX12_demand_49 : decode cX12_demand 49 = .ok (.ifCond .ne 7, 3) := by decide +kernel
theorem dX12_demand_52 : decode cX12_demand 52 = .ok (.iconst 2, 1) := by decide +kernel
theorem dX12_demand_53 : decode cX12_demand 53 = .ok (.goto 17, 3) := by decide +kernel
theorem dX12_demand_56 : decode cX12_demand 56 = .ok (.aload_n 0, 1) := by decide +kernel
theorem dX12_demand_57 : decode cX12_demand 57 = .ok (.getfield 125, 3) := by decide +kernel
theorem dX12_demand_60 : decode cX12_demand 60 = .ok (.bipush 6, 2) := by decide +kernel
theorem dX12_demand_62 : decode cX12_demand 62 = .ok (.if_icmp .ne 7, 3) := by decide +kernel
theorem dX12_demand_65 : decode cX12_demand 65 = .ok (.iconst 3, 1) := by decide +kernel
theorem dX12_demand_66 : decode cX12_demand 66 = .ok (.goto 4, 3) := by decide +kernel
theorem dX12_demand_69 : decode cX12_demand 69 = .ok (.iconst 0, 1) := by decide +kernel
theorem dX12_demand_70 : decode cX12_demand 70 = .ok (.invokevirtual 101, 3) := by decide +kernel
theorem dX12_demand_73 : decode cX12_demand 73 = .ok (.ifCond .ne 5, 3) := by decide +kernel
theorem dX12_demand_76 : decode cX12_demand 76 = .ok (.iconst 0, 1) := by decide +kernel
theorem dX12_demand_77 : decode cX12_demand 77 = .ok (.ireturn, 1) := by decide +kernel
theorem dX12_demand_78 : decode cX12_demand 78 = .ok (.iconst 4, 1) := by decide +kernel
theorem dX12_demand_79 : decode cX12_demand 79 = .ok (.aload_n 0, 1) := by decide +kernel
theorem dX12_demand_80 : decode cX12_demand 80 = .ok (.getfield 125, 3) := by decide +kernel
theorem dX12_demand_83 : decode cX12_demand 83 = .ok (.imul, 1) := by decide +kernel
theorem dX12_demand_84 : decode cX12_demand 84 = .ok (.istore 6, 2) := by decide +kernel
theorem dX12_demand_86 : decode cX12_demand 86 = .ok (.aload_n 0, 1) := by decide +kernel
theorem dX12_demand_87 : decode cX12_demand 87 = .ok (.getfield 26, 3) := by decide +kernel
theorem dX12_demand_90 : decode cX12_demand 90 = .ok (.iload 6, 2) := by decide +kernel
theorem dX12_demand_92 : decode cX12_demand 92 = .ok (.iload_n 1, 1) := by decide +kernel
theorem dX12_demand_93 : decode cX12_demand 93 = .ok (.iastore, 1) := by decide +kernel
theorem dX12_demand_94 : decode cX12_demand 94 = .ok (.aload_n 0, 1) := by decide +kernel
theorem dX12_demand_95 : decode cX12_demand 95 = .ok (.getfield 26, 3) := by decide +kernel
theorem dX12_demand_98 : decode cX12_demand 98 = .ok (.iload 6, 2) := by decide +kernel
theorem dX12_demand_100 : decode cX12_demand 100 = .ok (.iconst 1, 1) := by decide +kernel
theorem dX12_demand_101 : decode cX12_demand 101 = .ok (.iadd, 1) := by decide +kernel
theorem dX12_demand_102 : decode cX12_demand 102 = .ok (.iload_n 2, 1) := by decide +kernel
theorem dX12_demand_103 : decode cX12_demand 103 = .ok (.iastore, 1) := by decide +kernel
theorem dX12_demand_104 : decode cX12_demand 104 = .ok (.aload_n 0, 1) := by decide +kernel
theorem dX12_demand_105 : decode cX12_demand 105 = .ok (.getfield 26, 3) := by decide +kernel
theorem dX12_demand_108 : decode cX12_demand 108 = .ok (.iload 6, 2) := by decide +kernel
theorem dX12_demand_110 : decode cX12_demand 110 = .ok (.iconst 2, 1) := by decide +kernel
theorem dX12_demand_111 : decode cX12_demand 111 = .ok (.iadd, 1) := by decide +kernel
theorem dX12_demand_112 : decode cX12_demand 112 = .ok (.iload_n 3, 1) := by decide +kernel
theorem dX12_demand_113 : decode cX12_demand 113 = .ok (.iastore, 1) := by decide +kernel
theorem dX12_demand_114 : decode cX12_demand 114 = .ok (.aload_n 0, 1) := by decide +kernel
theorem dX12_demand_115 : decode cX12_demand 115 = .ok (.getfield 26, 3) := by decide +kernel
theorem dX12_demand_118 : decode cX12_demand 118 = .ok (.iload 6, 2) := by decide +kernel
theorem dX12_demand_120 : decode cX12_demand 120 = .ok (.iconst 3, 1) := by decide +kernel
theorem dX12_demand_121 : decode cX12_demand 121 = .ok (.iadd, 1) := by decide +kernel
theorem dX12_demand_122 : decode cX12_demand 122 = .ok (.iload 4, 2) := by decide +kernel
theorem dX12_demand_124 : decode cX12_demand 124 = .ok (.iastore, 1) := by decide +kernel
theorem dX12_demand_125 : decode cX12_demand 125 = .ok (.aload_n 0, 1) := by decide +kernel
theorem dX12_demand_126 : decode cX12_demand 126 = .ok (.dup, 1) := by decide +kernel
theorem dX12_demand_127 : decode cX12_demand 127 = .ok (.getfield 125, 3) := by decide +kernel
theorem dX12_demand_130 : decode cX12_demand 130 = .ok (.iconst 1, 1) := by decide +kernel
theorem dX12_demand_131 : decode cX12_demand 131 = .ok (.iadd, 1) := by decide +kernel
theorem dX12_demand_132 : decode cX12_demand 132 = .ok (.putfield 125, 3) := by decide +kernel
theorem dX12_demand_135 : decode cX12_demand 135 = .ok (.aload_n 0, 1) := by decide +kernel
theorem dX12_demand_136 : decode cX12_demand 136 = .ok (.iconst 0, 1) := by decide +kernel
theorem dX12_demand_137 : decode cX12_demand 137 = .ok (.putfield 104, 3) := by decide +kernel
theorem dX12_demand_140 : decode cX12_demand 140 = .ok (.aload_n 0, 1) := by decide +kernel
theorem dX12_demand_141 : decode cX12_demand 141 = .ok (.getfield 125, 3) := by decide +kernel
theorem dX12_demand_144 : decode cX12_demand 144 = .ok (.iconst 1, 1) := by decide +kernel
theorem dX12_demand_145 : decode cX12_demand 145 = .ok (.isub, 1) := by decide +kernel
theorem dX12_demand_146 : decode cX12_demand 146 = .ok (.ireturn, 1) := by decide +kernel
theorem dX12_advise_0 : decode cX12_advise 0 = .ok (.aload_n 0, 1) := by decide +kernel
theorem dX12_advise_1 : decode cX12_advise 1 = .ok (.iload_n 1, 1) := by decide +kernel
theorem dX12_advise_2 : decode cX12_advise 2 = .ok (.invokestatic 93, 3) := by decide +kernel
theorem dX12_advise_5 : decode cX12_advise 5 = .ok (.ifCond .eq 11, 3) := by decide +kernel
theorem dX12_advise_8 : decode cX12_advise 8 = .ok (.aload_n 0, 1) := by decide +kernel
theorem dX12_advise_9 : decode cX12_advise 9 = .ok (.iload_n 2, 1) := by decide +kernel
theorem dX12_advise_10 : decode cX12_advise 10 = .ok (.invokevirtual 122, 3) := by decide +kernel
theorem dX12_advise_13 : decode cX12_advise 13 = .ok (.ifCond .ne 7, 3) := by decide +kernel
theorem dX12_advise_16 : decode cX12_advise 16 = .ok (.iconst 1, 1) := by decide +kernel
theorem dX12_advise_17 : decode cX12_advise 17 = .ok (.goto 17, 3) := by decide +kernel
theorem dX12_advise_20 : decode cX12_advise 20 = .ok (.aload_n 0, 1) := by decide +kernel
theorem dX12_advise_21 : decode cX12_advise 21 = .ok (.getfield 128, 3) := by decide +kernel
theorem dX12_advise_24 : decode cX12_advise 24 = .ok (.bipush 8, 2) := by decide +kernel
theorem dX12_advise_26 : decode cX12_advise 26 = .ok (.if_icmp .ne 7, 3) := by decide +kernel
theorem dX12_advise_29 : decode cX12_advise 29 = .ok (.iconst 2, 1) := by decide +kernel
theorem dX12_advise_30 : decode cX12_advise 30 = .ok (.goto 4, 3) := by decide +kernel
theorem dX12_advise_33 : decode cX12_advise 33 = .ok (.iconst 0, 1) := by decide +kernel
theorem dX12_advise_34 : decode cX12_advise 34 = .ok (.invokevirtual 101, 3) := by decide +kernel
theorem dX12_advise_37 : decode cX12_advise 37 = .ok (.ifCond .ne 5, 3) := by decide +kernel
theorem dX12_advise_40 : decode cX12_advise 40 = .ok (.iconst 0, 1) := by decide +kernel
theorem dX12_advise_41 : decode cX12_advise 41 = .ok (.ireturn, 1) := by decide +kernel
theorem dX12_advise_42 : decode cX12_advise 42 = .ok (.aload_n 0, 1) := by decide +kernel
theorem dX12_advise_43 : decode cX12_advise 43 = .ok (.getfield 29, 3) := by decide +kernel
theorem dX12_advise_46 : decode cX12_advise 46 = .ok (.iconst 2, 1) := by decide +kernel
theorem dX12_advise_47 : decode cX12_advise 47 = .ok (.aload_n 0, 1) := by decide +kernel
theorem dX12_advise_48 : decode cX12_advise 48 = .ok (.getfield 128, 3) := by decide +kernel
theorem dX12_advise_51 : decode cX12_advise 51 = .ok (.imul, 1) := by decide +kernel
theorem dX12_advise_52 : decode cX12_advise 52 = .ok (.iload_n 1, 1) := by decide +kernel
theorem dX12_advise_53 : decode cX12_advise 53 = .ok (.iastore, 1) := by decide +kernel
theorem dX12_advise_54 : decode cX12_advise 54 = .ok (.aload_n 0, 1) := by decide +kernel
theorem dX12_advise_55 : decode cX12_advise 55 = .ok (.getfield 29, 3) := by decide +kernel
theorem dX12_advise_58 : decode cX12_advise 58 = .ok (.iconst 2, 1) := by decide +kernel
theorem dX12_advise_59 : decode cX12_advise 59 = .ok (.aload_n 0, 1) := by decide +kernel
theorem dX12_advise_60 : decode cX12_advise 60 = .ok (.getfield 128, 3) := by decide +kernel
theorem dX12_advise_63 : decode cX12_advise 63 = .ok (.imul, 1) := by decide +kernel
theorem dX12_advise_64 : decode cX12_advise 64 = .ok (.iconst 1, 1) := by decide +kernel
theorem dX12_advise_65 : decode cX12_advise 65 = .ok (.iadd, 1) := by decide +kernel
theorem dX12_advise_66 : decode cX12_advise 66 = .ok (.iload_n 2, 1) := by decide +kernel
theorem dX12_advise_67 : decode cX12_advise 67 = .ok (.iastore, 1) := by decide +kernel
theorem dX12_advise_68 : decode cX12_advise 68 = .ok (.aload_n 0, 1) := by decide +kernel
theorem dX12_advise_69 : decode cX12_advise 69 = .ok (.dup, 1) := by decide +kernel
theorem dX12_advise_70 : decode cX12_advise 70 = .ok (.getfield 128, 3) := by decide +kernel
theorem dX12_advise_73 : decode cX12_advise 73 = .ok (.iconst 1, 1) := by decide +kernel
theorem dX12_advise_74 : decode cX12_advise 74 = .ok (.iadd, 1) := by decide +kernel
theorem dX12_advise_75 : decode cX12_advise 75 = .ok (.putfield 128, 3) := by decide +kernel
theorem dX12_advise_78 : decode cX12_advise 78 = .ok (.aload_n 0, 1) := by decide +kernel
theorem dX12_advise_79 : decode cX12_advise 79 = .ok (.iconst 0, 1) := by decide +kernel
theorem dX12_advise_80 : decode cX12_advise 80 = .ok (.putfield 104, 3) := by decide +kernel
theorem dX12_advise_83 : decode cX12_advise 83 = .ok (.aload_n 0, 1) := by decide +kernel
theorem dX12_advise_84 : decode cX12_advise 84 = .ok (.getfield 128, 3) := by decide +kernel
theorem dX12_advise_87 : decode cX12_advise 87 = .ok (.ireturn, 1) := by decide +kernel
theorem dX12_hinders_0 : decode cX12_hinders 0 = .ok (.bipush 9, 2) := by decide +kernel
theorem dX12_hinders_2 : decode cX12_hinders 2 = .ok (.iload_n 1, 1) := by decide +kernel
theorem dX12_hinders_3 : decode cX12_hinders 3 = .ok (.imul, 1) := by decide +kernel
theorem dX12_hinders_4 : decode cX12_hinders 4 = .ok (.istore_n 2, 1) := by decide +kernel
theorem dX12_hinders_5 : decode cX12_hinders 5 = .ok (.iconst 0, 1) := by decide +kernel
theorem dX12_hinders_6 : decode cX12_hinders 6 = .ok (.istore_n 3, 1) := by decide +kernel
theorem dX12_hinders_7 : decode cX12_hinders 7 = .ok (.iconst 0, 1) := by decide +kernel
theorem dX12_hinders_8 : decode cX12_hinders 8 = .ok (.istore 4, 2) := by decide +kernel
theorem dX12_hinders_10 : decode cX12_hinders 10 = .ok (.iload 4, 2) := by decide +kernel
theorem dX12_hinders_12 : decode cX12_hinders 12 = .ok (.aload_n 0, 1) := by decide +kernel
theorem dX12_hinders_13 : decode cX12_hinders 13 = .ok (.getfield 79, 3) := by decide +kernel
theorem dX12_hinders_16 : decode cX12_hinders 16 = .ok (.if_icmp .ge 61, 3) := by decide +kernel
theorem dX12_hinders_19 : decode cX12_hinders 19 = .ok (.iload_n 3, 1) := by decide +kernel
theorem dX12_hinders_20 : decode cX12_hinders 20 = .ok (.ifCond .ne 45, 3) := by decide +kernel
theorem dX12_hinders_23 : decode cX12_hinders 23 = .ok (.aload_n 0, 1) := by decide +kernel
theorem dX12_hinders_24 : decode cX12_hinders 24 = .ok (.getfield 7, 3) := by decide +kernel
theorem dX12_hinders_27 : decode cX12_hinders 27 = .ok (.iload_n 2, 1) := by decide +kernel
theorem dX12_hinders_28 : decode cX12_hinders 28 = .ok (.iconst 5, 1) := by decide +kernel
theorem dX12_hinders_29 : decode cX12_hinders 29 = .ok (.iadd, 1) := by decide +kernel
theorem dX12_hinders_30 : decode cX12_hinders 30 = .ok (.iaload, 1) := by decide +kernel
theorem dX12_hinders_31 : decode cX12_hinders 31 = .ok (.iconst 1, 1) := by decide +kernel
theorem dX12_hinders_32 : decode cX12_hinders 32 = .ok (.if_icmp .ne 37, 3) := by decide +kernel
theorem dX12_hinders_35 : decode cX12_hinders 35 = .ok (.aload_n 0, 1) := by decide +kernel
theorem dX12_hinders_36 : decode cX12_hinders 36 = .ok (.iload 4, 2) := by decide +kernel
theorem dX12_hinders_38 : decode cX12_hinders 38 = .ok (.invokevirtual 97, 3) := by decide +kernel
theorem dX12_hinders_41 : decode cX12_hinders 41 = .ok (.aload_n 0, 1) := by decide +kernel
theorem dX12_hinders_42 : decode cX12_hinders 42 = .ok (.getfield 7, 3) := by decide +kernel
theorem dX12_hinders_45 : decode cX12_hinders 45 = .ok (.iload_n 2, 1) := by decide +kernel
theorem dX12_hinders_46 : decode cX12_hinders 46 = .ok (.iaload, 1) := by decide +kernel
theorem dX12_hinders_47 : decode cX12_hinders 47 = .ok (.if_icmp .ne 22, 3) := by decide +kernel
theorem dX12_hinders_50 : decode cX12_hinders 50 = .ok (.aload_n 0, 1) := by decide +kernel
theorem dX12_hinders_51 : decode cX12_hinders 51 = .ok (.getfield 7, 3) := by decide +kernel
theorem dX12_hinders_54 : decode cX12_hinders 54 = .ok (.bipush 9, 2) := by decide +kernel
theorem dX12_hinders_56 : decode cX12_hinders 56 = .ok (.iload 4, 2) := by decide +kernel
theorem dX12_hinders_58 : decode cX12_hinders 58 = .ok (.imul, 1) := by decide +kernel
theorem dX12_hinders_59 : decode cX12_hinders 59 = .ok (.iconst 5, 1) := by decide +kernel
theorem dX12_hinders_60 : decode cX12_hinders 60 = .ok (.iadd, 1) := by decide +kernel
theorem dX12_hinders_61 : decode cX12_hinders 61 = .ok (.iaload, 1) := by decide +kernel
theorem dX12_hinders_62 : decode cX12_hinders 62 = .ok (.ifCond .ne 7, 3) := by decide +kernel
theorem dX12_hinders_65 : decode cX12_hinders 65 = .ok (.iconst 1, 1) := by decide +kernel
theorem dX12_hinders_66 : decode cX12_hinders 66 = .ok (.goto 4, 3) := by decide +kernel
theorem dX12_hinders_69 : decode cX12_hinders 69 = .ok (.iconst 0, 1) := by decide +kernel
theorem dX12_hinders_70 : decode cX12_hinders 70 = .ok (.istore_n 3, 1) := by decide +kernel
theorem dX12_hinders_71 : decode cX12_hinders 71 = .ok (.iinc 4 1, 3) := by decide +kernel
theorem dX12_hinders_74 : decode cX12_hinders 74 = .ok (.goto (-64), 3) := by decide +kernel
theorem dX12_hinders_77 : decode cX12_hinders 77 = .ok (.iconst 0, 1) := by decide +kernel
theorem dX12_hinders_78 : decode cX12_hinders 78 = .ok (.istore 4, 2) := by decide +kernel
theorem dX12_hinders_80 : decode cX12_hinders 80 = .ok (.iconst 0, 1) := by decide +kernel
theorem dX12_hinders_81 : decode cX12_hinders 81 = .ok (.istore 5, 2) := by decide +kernel
theorem dX12_hinders_83 : decode cX12_hinders 83 = .ok (.iload 5, 2) := by decide +kernel
theorem dX12_hinders_85 : decode cX12_hinders 85 = .ok (.aload_n 0, 1) := by decide +kernel
theorem dX12_hinders_86 : decode cX12_hinders 86 = .ok (.getfield 128, 3) := by decide +kernel
theorem dX12_hinders_89 : decode cX12_hinders 89 = .ok (.if_icmp .ge 63, 3) := by decide +kernel
theorem dX12_hinders_92 : decode cX12_hinders 92 = .ok (.iload 4, 2) := by decide +kernel
theorem dX12_hinders_94 : decode cX12_hinders 94 = .ok (.ifCond .ne 45, 3) := by decide +kernel
theorem dX12_hinders_97 : decode cX12_hinders 97 = .ok (.aload_n 0, 1) := by decide +kernel
theorem dX12_hinders_98 : decode cX12_hinders 98 = .ok (.getfield 29, 3) := by decide +kernel
theorem dX12_hinders_101 : decode cX12_hinders 101 = .ok (.iconst 2, 1) := by decide +kernel
theorem dX12_hinders_102 : decode cX12_hinders 102 = .ok (.iload 5, 2) := by decide +kernel
theorem dX12_hinders_104 : decode cX12_hinders 104 = .ok (.imul, 1) := by decide +kernel
theorem dX12_hinders_105 : decode cX12_hinders 105 = .ok (.iaload, 1) := by decide +kernel
theorem dX12_hinders_106 : decode cX12_hinders 106 = .ok (.aload_n 0, 1) := by decide +kernel
theorem dX12_hinders_107 : decode cX12_hinders 107 = .ok (.getfield 7, 3) := by decide +kernel
theorem dX12_hinders_110 : decode cX12_hinders 110 = .ok (.iload_n 2, 1) := by decide +kernel
theorem dX12_hinders_111 : decode cX12_hinders 111 = .ok (.iaload, 1) := by decide +kernel
theorem dX12_hinders_112 : decode cX12_hinders 112 = .ok (.if_icmp .ne 31, 3) := by decide +kernel
theorem dX12_hinders_115 : decode cX12_hinders 115 = .ok (.aload_n 0, 1) := by decide +kernel
theorem dX12_hinders_116 : decode cX12_hinders 116 = .ok (.getfield 22, 3) := by decide +kernel
theorem dX12_hinders_119 : decode cX12_hinders 119 = .ok (.bipush 24, 2) := by decide +kernel
theorem dX12_hinders_121 : decode cX12_hinders 121 = .ok (.aload_n 0, 1) := by decide +kernel
theorem dX12_hinders_122 : decode cX12_hinders 122 = .ok (.getfield 29, 3) := by decide +kernel
theorem dX12_hinders_125 : decode cX12_hinders 125 = .ok (.iconst 2, 1) := by decide +kernel
theorem dX12_hinders_126 : decode cX12_hinders 126 = .ok (.iload 5, 2) := by decide +kernel
theorem dX12_hinders_128 : decode cX12_hinders 128 = .ok (.imul, 1) := by decide +kernel
theorem dX12_hinders_129 : decode cX12_hinders 129 = .ok (.iconst 1, 1) := by decide +kernel
theorem dX12_hinders_130 : decode cX12_hinders 130 = .ok (.iadd, 1) := by decide +kernel
theorem dX12_hinders_131 : decode cX12_hinders 131 = .ok (.iaload, 1) := by decide +kernel
theorem dX12_hinders_132 : decode cX12_hinders 132 = .ok (.imul, 1) := by decide +kernel
theorem dX12_hinders_133 : decode cX12_hinders 133 = .ok (.iload_n 1, 1) := by decide +kernel
theorem dX12_hinders_134 : decode cX12_hinders 134 = .ok (.iadd, 1) := by decide +kernel
theorem dX12_hinders_135 : decode cX12_hinders 135 = .ok (.baload, 1) := by decide +kernel
theorem dX12_hinders_136 : decode cX12_hinders 136 = .ok (.ifCond .eq 7, 3) := by decide +kernel
theorem dX12_hinders_139 : decode cX12_hinders 139 = .ok (.iconst 1, 1) := by decide +kernel
theorem dX12_hinders_140 : decode cX12_hinders 140 = .ok (.goto 4, 3) := by decide +kernel
theorem dX12_hinders_143 : decode cX12_hinders 143 = .ok (.iconst 0, 1) := by decide +kernel
theorem dX12_hinders_144 : decode cX12_hinders 144 = .ok (.istore 4, 2) := by decide +kernel
theorem dX12_hinders_146 : decode cX12_hinders 146 = .ok (.iinc 5 1, 3) := by decide +kernel
theorem dX12_hinders_149 : decode cX12_hinders 149 = .ok (.goto (-66), 3) := by decide +kernel
theorem dX12_hinders_152 : decode cX12_hinders 152 = .ok (.aload_n 0, 1) := by decide +kernel
theorem dX12_hinders_153 : decode cX12_hinders 153 = .ok (.getfield 7, 3) := by decide +kernel
theorem dX12_hinders_156 : decode cX12_hinders 156 = .ok (.iload_n 2, 1) := by decide +kernel
theorem dX12_hinders_157 : decode cX12_hinders 157 = .ok (.bipush 6, 2) := by decide +kernel
theorem dX12_hinders_159 : decode cX12_hinders 159 = .ok (.iadd, 1) := by decide +kernel
theorem dX12_hinders_160 : decode cX12_hinders 160 = .ok (.iaload, 1) := by decide +kernel
theorem dX12_hinders_161 : decode cX12_hinders 161 = .ok (.iconst 1, 1) := by decide +kernel
theorem dX12_hinders_162 : decode cX12_hinders 162 = .ok (.if_icmp .ne 22, 3) := by decide +kernel
theorem dX12_hinders_165 : decode cX12_hinders 165 = .ok (.aload_n 0, 1) := by decide +kernel
theorem dX12_hinders_166 : decode cX12_hinders 166 = .ok (.getfield 35, 3) := by decide +kernel
theorem dX12_hinders_169 : decode cX12_hinders 169 = .ok (.aload_n 0, 1) := by decide +kernel
theorem dX12_hinders_170 : decode cX12_hinders 170 = .ok (.getfield 7, 3) := by decide +kernel
theorem dX12_hinders_173 : decode cX12_hinders 173 = .ok (.iload_n 2, 1) := by decide +kernel
theorem dX12_hinders_174 : decode cX12_hinders 174 = .ok (.iaload, 1) := by decide +kernel
theorem dX12_hinders_175 : decode cX12_hinders 175 = .ok (.iaload, 1) := by decide +kernel
theorem dX12_hinders_176 : decode cX12_hinders 176 = .ok (.iload_n 1, 1) := by decide +kernel
theorem dX12_hinders_177 : decode cX12_hinders 177 = .ok (.if_icmp .eq 7, 3) := by decide +kernel
theorem dX12_hinders_180 : decode cX12_hinders 180 = .ok (.iconst 1, 1) := by decide +kernel
theorem dX12_hinders_181 : decode cX12_hinders 181 = .ok (.goto 4, 3) := by decide +kernel
theorem dX12_hinders_184 : decode cX12_hinders 184 = .ok (.iconst 0, 1) := by decide +kernel
theorem dX12_hinders_185 : decode cX12_hinders 185 = .ok (.istore 5, 2) := by decide +kernel
theorem dX12_hinders_187 : decode cX12_hinders 187 = .ok (.aload_n 0, 1) := by decide +kernel
theorem dX12_hinders_188 : decode cX12_hinders 188 = .ok (.getfield 7, 3) := by decide +kernel
theorem dX12_hinders_191 : decode cX12_hinders 191 = .ok (.iload_n 2, 1) := by decide +kernel
theorem dX12_hinders_192 : decode cX12_hinders 192 = .ok (.bipush 7, 2) := by decide +kernel
theorem dX12_hinders_194 : decode cX12_hinders 194 = .ok (.iadd, 1) := by decide +kernel
theorem dX12_hinders_195 : decode cX12_hinders 195 = .ok (.iaload, 1) := by decide +kernel
theorem dX12_hinders_196 : decode cX12_hinders 196 = .ok (.aload_n 0, 1) := by decide +kernel
theorem dX12_hinders_197 : decode cX12_hinders 197 = .ok (.getfield 131, 3) := by decide +kernel
theorem dX12_hinders_200 : decode cX12_hinders 200 = .ok (.ishr, 1) := by decide +kernel
theorem dX12_hinders_201 : decode cX12_hinders 201 = .ok (.iconst 1, 1) := by decide +kernel
theorem dX12_hinders_202 : decode cX12_hinders 202 = .ok (.iand, 1) := by decide +kernel
theorem dX12_hinders_203 : decode cX12_hinders 203 = .ok (.ifCond .ne 7, 3) := by decide +kernel
theorem dX12_hinders_206 : decode cX12_hinders 206 = .ok (.iconst 1, 1) := by decide +kernel
theorem dX12_hinders_207 : decode cX12_hinders 207 = .ok (.goto 4, 3) := by decide +kernel
theorem dX12_hinders_210 : decode cX12_hinders 210 = .ok (.iconst 0, 1) := by decide +kernel
theorem dX12_hinders_211 : decode cX12_hinders 211 = .ok (.istore 6, 2) := by decide +kernel
theorem dX12_hinders_213 : decode cX12_hinders 213 = .ok (.iload_n 3, 1) := by decide +kernel
theorem dX12_hinders_214 : decode cX12_hinders 214 = .ok (.ifCond .eq 7, 3) := by decide +kernel
theorem dX12_hinders_217 : decode cX12_hinders 217 = .ok (.iconst 1, 1) := by decide +kernel
theorem dX12_hinders_218 : decode cX12_hinders 218 = .ok (.goto 31, 3) := by decide +kernel
theorem dX12_hinders_221 : decode cX12_hinders 221 = .ok (.iload 5, 2) := by decide +kernel
theorem dX12_hinders_223 : decode cX12_hinders 223 = .ok (.ifCond .eq 7, 3) := by decide +kernel
theorem dX12_hinders_226 : decode cX12_hinders 226 = .ok (.iconst 2, 1) := by decide +kernel
theorem dX12_hinders_227 : decode cX12_hinders 227 = .ok (.goto 22, 3) := by decide +kernel
theorem dX12_hinders_230 : decode cX12_hinders 230 = .ok (.iload 6, 2) := by decide +kernel
theorem dX12_hinders_232 : decode cX12_hinders 232 = .ok (.ifCond .eq 7, 3) := by decide +kernel
theorem dX12_hinders_235 : decode cX12_hinders 235 = .ok (.iconst 3, 1) := by decide +kernel
theorem dX12_hinders_236 : decode cX12_hinders 236 = .ok (.goto 13, 3) := by decide +kernel
theorem dX12_hinders_239 : decode cX12_hinders 239 = .ok (.iload 4, 2) := by decide +kernel
theorem dX12_hinders_241 : decode cX12_hinders 241 = .ok (.ifCond .eq 7, 3) := by decide +kernel
theorem dX12_hinders_244 : decode cX12_hinders 244 = .ok (.iconst 4, 1) := by decide +kernel
theorem dX12_hinders_245 : decode cX12_hinders 245 = .ok (.goto 4, 3) := by decide +kernel
theorem dX12_hinders_248 : decode cX12_hinders 248 = .ok (.iconst 0, 1) := by decide +kernel
theorem dX12_hinders_249 : decode cX12_hinders 249 = .ok (.ireturn, 1) := by decide +kernel
theorem dX12_mending_0 : decode cX12_mending 0 = .ok (.aload_n 0, 1) := by decide +kernel
theorem dX12_mending_1 : decode cX12_mending 1 = .ok (.aload_n 0, 1) := by decide +kernel
theorem dX12_mending_2 : decode cX12_mending 2 = .ok (.iload_n 1, 1) := by decide +kernel
theorem dX12_mending_3 : decode cX12_mending 3 = .ok (.invokevirtual 108, 3) := by decide +kernel
theorem dX12_mending_6 : decode cX12_mending 6 = .ok (.ifCond .eq 7, 3) := by decide +kernel
theorem dX12_mending_9 : decode cX12_mending 9 = .ok (.iconst 0, 1) := by decide +kernel
theorem dX12_mending_10 : decode cX12_mending 10 = .ok (.goto 4, 3) := by decide +kernel
theorem dX12_mending_13 : decode cX12_mending 13 = .ok (.iconst 1, 1) := by decide +kernel
theorem dX12_mending_14 : decode cX12_mending 14 = .ok (.invokevirtual 101, 3) := by decide +kernel
theorem dX12_mending_17 : decode cX12_mending 17 = .ok (.ifCond .ne 5, 3) := by decide +kernel
theorem dX12_mending_20 : decode cX12_mending 20 = .ok (.iconst 0, 1) := by decide +kernel
theorem dX12_mending_21 : decode cX12_mending 21 = .ok (.ireturn, 1) := by decide +kernel
theorem dX12_mending_22 : decode cX12_mending 22 = .ok (.iconst (-1), 1) := by decide +kernel
theorem dX12_mending_23 : decode cX12_mending 23 = .ok (.istore_n 2, 1) := by decide +kernel
theorem dX12_mending_24 : decode cX12_mending 24 = .ok (.iconst 0, 1) := by decide +kernel
theorem dX12_mending_25 : decode cX12_mending 25 = .ok (.istore_n 3, 1) := by decide +kernel
theorem dX12_mending_26 : decode cX12_mending 26 = .ok (.iload_n 3, 1) := by decide +kernel
theorem dX12_mending_27 : decode cX12_mending 27 = .ok (.aload_n 0, 1) := by decide +kernel
theorem dX12_mending_28 : decode cX12_mending 28 = .ok (.getfield 79, 3) := by decide +kernel
theorem dX12_mending_31 : decode cX12_mending 31 = .ok (.if_icmp .ge 71, 3) := by decide +kernel
theorem dX12_mending_34 : decode cX12_mending 34 = .ok (.aload_n 0, 1) := by decide +kernel
theorem dX12_mending_35 : decode cX12_mending 35 = .ok (.iload_n 3, 1) := by decide +kernel
theorem dX12_mending_36 : decode cX12_mending 36 = .ok (.invokevirtual 97, 3) := by decide +kernel
theorem dX12_mending_39 : decode cX12_mending 39 = .ok (.aload_n 0, 1) := by decide +kernel
theorem dX12_mending_40 : decode cX12_mending 40 = .ok (.iload_n 1, 1) := by decide +kernel
theorem dX12_mending_41 : decode cX12_mending 41 = .ok (.invokevirtual 97, 3) := by decide +kernel
theorem dX12_mending_44 : decode cX12_mending 44 = .ok (.if_icmp .ne 24, 3) := by decide +kernel
theorem dX12_mending_47 : decode cX12_mending 47 = .ok (.aload_n 0, 1) := by decide +kernel
theorem dX12_mending_48 : decode cX12_mending 48 = .ok (.iload_n 3, 1) := by decide +kernel
theorem dX12_mending_49 : decode cX12_mending 49 = .ok (.iload_n 1, 1) := by decide +kernel
theorem dX12_mending_50 : decode cX12_mending 50 = .ok (.invokevirtual 111, 3) := by decide +kernel
theorem dX12_mending_53 : decode cX12_mending 53 = .ok (.ifCond .le 15, 3) := by decide +kernel
theorem dX12_mending_56 : decode cX12_mending 56 = .ok (.aload_n 0, 1) := by decide +kernel
theorem dX12_mending_57 : decode cX12_mending 57 = .ok (.iload_n 3, 1) := by decide +kernel
theorem dX12_mending_58 : decode cX12_mending 58 = .ok (.invokevirtual 134, 3) := by decide +kernel
theorem dX12_mending_61 : decode cX12_mending 61 = .ok (.ifCond .ne 7, 3) := by decide +kernel
theorem dX12_mending_64 : decode cX12_mending 64 = .ok (.iconst 1, 1) := by decide +kernel
theorem dX12_mending_65 : decode cX12_mending 65 = .ok (.goto 4, 3) := by decide +kernel
theorem dX12_mending_68 : decode cX12_mending 68 = .ok (.iconst 0, 1) := by decide +kernel
theorem dX12_mending_69 : decode cX12_mending 69 = .ok (.istore 4, 2) := by decide +kernel
theorem dX12_mending_71 : decode cX12_mending 71 = .ok (.iload 4, 2) := by decide +kernel
theorem dX12_mending_73 : decode cX12_mending 73 = .ok (.ifCond .eq 21, 3) := by decide +kernel
theorem dX12_mending_76 : decode cX12_mending 76 = .ok (.iload_n 2, 1) := by decide +kernel
theorem dX12_mending_77 : decode cX12_mending 77 = .ok (.iconst (-1), 1) := by decide +kernel
theorem dX12_mending_78 : decode cX12_mending 78 = .ok (.if_icmp .eq 12, 3) := by decide +kernel
theorem dX12_mending_81 : decode cX12_mending 81 = .ok (.aload_n 0, 1) := by decide +kernel
theorem dX12_mending_82 : decode cX12_mending 82 = .ok (.iload_n 3, 1) := by decide +kernel
theorem dX12_mending_83 : decode cX12_mending 83 = .ok (.iload_n 2, 1) := by decide +kernel
theorem dX12_mending_84 : decode cX12_mending 84 = .ok (.invokevirtual 111, 3) := by decide +kernel
theorem dX12_mending_87 : decode cX12_mending 87 = .ok (.ifCond .ge 7, 3) := by decide +kernel
theorem dX12_mending_90 : decode cX12_mending 90 = .ok (.iload_n 3, 1) := by decide +kernel
theorem dX12_mending_91 : decode cX12_mending 91 = .ok (.goto 4, 3) := by decide +kernel
theorem dX12_mending_94 : decode cX12_mending 94 = .ok (.iload_n 2, 1) := by decide +kernel
theorem dX12_mending_95 : decode cX12_mending 95 = .ok (.istore_n 2, 1) := by decide +kernel
theorem dX12_mending_96 : decode cX12_mending 96 = .ok (.iinc 3 1, 3) := by decide +kernel
theorem dX12_mending_99 : decode cX12_mending 99 = .ok (.goto (-73), 3) := by decide +kernel
theorem dX12_mending_102 : decode cX12_mending 102 = .ok (.iload_n 2, 1) := by decide +kernel
theorem dX12_mending_103 : decode cX12_mending 103 = .ok (.ireturn, 1) := by decide +kernel
theorem dX12_standsFor_0 : decode cX12_standsFor 0 = .ok (.iload_n 1, 1) := by decide +kernel
theorem dX12_standsFor_1 : decode cX12_standsFor 1 = .ok (.istore_n 2, 1) := by decide +kernel
theorem dX12_standsFor_2 : decode cX12_standsFor 2 = .ok (.aload_n 0, 1) := by decide +kernel
theorem dX12_standsFor_3 : decode cX12_standsFor 3 = .ok (.getfield 32, 3) := by decide +kernel
theorem dX12_standsFor_6 : decode cX12_standsFor 6 = .ok (.iload_n 2, 1) := by decide +kernel
theorem dX12_standsFor_7 : decode cX12_standsFor 7 = .ok (.iaload, 1) := by decide +kernel
theorem dX12_standsFor_8 : decode cX12_standsFor 8 = .ok (.iconst (-1), 1) := by decide +kernel
theorem dX12_standsFor_9 : decode cX12_standsFor 9 = .ok (.if_icmp .eq 13, 3) := by decide +kernel
theorem dX12_standsFor_12 : decode cX12_standsFor 12 = .ok (.aload_n 0, 1) := by decide +kernel
theorem dX12_standsFor_13 : decode cX12_standsFor 13 = .ok (.getfield 32, 3) := by decide +kernel
theorem dX12_standsFor_16 : decode cX12_standsFor 16 = .ok (.iload_n 2, 1) := by decide +kernel
theorem dX12_standsFor_17 : decode cX12_standsFor 17 = .ok (.iaload, 1) := by decide +kernel
theorem dX12_standsFor_18 : decode cX12_standsFor 18 = .ok (.istore_n 2, 1) := by decide +kernel
theorem dX12_standsFor_19 : decode cX12_standsFor 19 = .ok (.goto (-17), 3) := by decide +kernel
theorem dX12_standsFor_22 : decode cX12_standsFor 22 = .ok (.iload_n 2, 1) := by decide +kernel
theorem dX12_standsFor_23 : decode cX12_standsFor 23 = .ok (.ireturn, 1) := by decide +kernel
theorem dX12_replace_0 : decode cX12_replace 0 = .ok (.iload_n 1, 1) := by decide +kernel
theorem dX12_replace_1 : decode cX12_replace 1 = .ok (.invokestatic 93, 3) := by decide +kernel
theorem dX12_replace_4 : decode cX12_replace 4 = .ok (.ifCond .eq 16, 3) := by decide +kernel
theorem dX12_replace_7 : decode cX12_replace 7 = .ok (.iload_n 2, 1) := by decide +kernel
theorem dX12_replace_8 : decode cX12_replace 8 = .ok (.iconst (-1), 1) := by decide +kernel
theorem dX12_replace_9 : decode cX12_replace 9 = .ok (.iconst 5, 1) := by decide +kernel
theorem dX12_replace_10 : decode cX12_replace 10 = .ok (.invokestatic 75, 3) := by decide +kernel
theorem dX12_replace_13 : decode cX12_replace 13 = .ok (.ifCond .eq 7, 3) := by decide +kernel
theorem dX12_replace_16 : decode cX12_replace 16 = .ok (.iconst 1, 1) := by decide +kernel
theorem dX12_replace_17 : decode cX12_replace 17 = .ok (.goto 4, 3) := by decide +kernel
theorem dX12_replace_20 : decode cX12_replace 20 = .ok (.iconst 0, 1) := by decide +kernel
theorem dX12_replace_21 : decode cX12_replace 21 = .ok (.istore_n 3, 1) := by decide +kernel
theorem dX12_replace_22 : decode cX12_replace 22 = .ok (.iload_n 3, 1) := by decide +kernel
theorem dX12_replace_23 : decode cX12_replace 23 = .ok (.ifCond .eq 12, 3) := by decide +kernel
theorem dX12_replace_26 : decode cX12_replace 26 = .ok (.iload_n 2, 1) := by decide +kernel
theorem dX12_replace_27 : decode cX12_replace 27 = .ok (.iload_n 1, 1) := by decide +kernel
theorem dX12_replace_28 : decode cX12_replace 28 = .ok (.if_icmp .ne 7, 3) := by decide +kernel
theorem dX12_replace_31 : decode cX12_replace 31 = .ok (.iconst 1, 1) := by decide +kernel
theorem dX12_replace_32 : decode cX12_replace 32 = .ok (.goto 4, 3) := by decide +kernel
theorem dX12_replace_35 : decode cX12_replace 35 = .ok (.iconst 0, 1) := by decide +kernel
theorem dX12_replace_36 : decode cX12_replace 36 = .ok (.istore 4, 2) := by decide +kernel
theorem dX12_replace_38 : decode cX12_replace 38 = .ok (.iload_n 3, 1) := by decide +kernel
theorem dX12_replace_39 : decode cX12_replace 39 = .ok (.ifCond .eq 7, 3) := by decide +kernel
theorem dX12_replace_42 : decode cX12_replace 42 = .ok (.iload_n 2, 1) := by decide +kernel
theorem dX12_replace_43 : decode cX12_replace 43 = .ok (.goto 4, 3) := by decide +kernel
theorem dX12_replace_46 : decode cX12_replace 46 = .ok (.iconst (-1), 1) := by decide +kernel
theorem dX12_replace_47 : decode cX12_replace 47 = .ok (.istore 5, 2) := by decide +kernel
theorem dX12_replace_49 : decode cX12_replace 49 = .ok (.iload 5, 2) := by decide +kernel
theorem dX12_replace_51 : decode cX12_replace 51 = .ok (.iconst (-1), 1) := by decide +kernel
theorem dX12_replace_52 : decode cX12_replace 52 = .ok (.if_icmp .eq 33, 3) := by decide +kernel
theorem dX12_replace_55 : decode cX12_replace 55 = .ok (.iload 4, 2) := by decide +kernel
theorem dX12_replace_57 : decode cX12_replace 57 = .ok (.ifCond .ne 28, 3) := by decide +kernel
theorem dX12_replace_60 : decode cX12_replace 60 = .ok (.aload_n 0, 1) := by decide +kernel
theorem dX12_replace_61 : decode cX12_replace 61 = .ok (.getfield 32, 3) := by decide +kernel
theorem dX12_replace_64 : decode cX12_replace 64 = .ok (.iload 5, 2) := by decide +kernel
theorem dX12_replace_66 : decode cX12_replace 66 = .ok (.iaload, 1) := by decide +kernel
theorem dX12_replace_67 : decode cX12_replace 67 = .ok (.istore 5, 2) := by decide +kernel
theorem dX12_replace_69 : decode cX12_replace 69 = .ok (.iload 5, 2) := by decide +kernel
theorem dX12_replace_71 : decode cX12_replace 71 = .ok (.iload_n 1, 1) := by decide +kernel
theorem dX12_replace_72 : decode cX12_replace 72 = .ok (.if_icmp .ne 7, 3) := by decide +kernel
theorem dX12_replace_75 : decode cX12_replace 75 = .ok (.iconst 1, 1) := by decide +kernel
theorem dX12_replace_76 : decode cX12_replace 76 = .ok (.goto 4, 3) := by decide +kernel
theorem dX12_replace_79 : decode cX12_replace 79 = .ok (.iconst 0, 1) := by decide +kernel
theorem dX12_replace_80 : decode cX12_replace 80 = .ok (.istore 4, 2) := by decide +kernel
theorem dX12_replace_82 : decode cX12_replace 82 = .ok (.goto (-33), 3) := by decide +kernel
theorem dX12_replace_85 : decode cX12_replace 85 = .ok (.aload_n 0, 1) := by decide +kernel
theorem dX12_replace_86 : decode cX12_replace 86 = .ok (.iload_n 3, 1) := by decide +kernel
theorem dX12_replace_87 : decode cX12_replace 87 = .ok (.ifCond .ne 7, 3) := by decide +kernel
theorem dX12_replace_90 : decode cX12_replace 90 = .ok (.iconst 1, 1) := by decide +kernel
theorem dX12_replace_91 : decode cX12_replace 91 = .ok (.goto 13, 3) := by decide +kernel
theorem dX12_replace_94 : decode cX12_replace 94 = .ok (.iload 4, 2) := by decide +kernel
theorem dX12_replace_96 : decode cX12_replace 96 = .ok (.ifCond .eq 7, 3) := by decide +kernel
theorem dX12_replace_99 : decode cX12_replace 99 = .ok (.iconst 2, 1) := by decide +kernel
theorem dX12_replace_100 : decode cX12_replace 100 = .ok (.goto 4, 3) := by decide +kernel
theorem dX12_replace_103 : decode cX12_replace 103 = .ok (.iconst 0, 1) := by decide +kernel
theorem dX12_replace_104 : decode cX12_replace 104 = .ok (.invokevirtual 101, 3) := by decide +kernel
theorem dX12_replace_107 : decode cX12_replace 107 = .ok (.ifCond .ne 5, 3) := by decide +kernel
theorem dX12_replace_110 : decode cX12_replace 110 = .ok (.iconst 0, 1) := by decide +kernel
theorem dX12_replace_111 : decode cX12_replace 111 = .ok (.ireturn, 1) := by decide +kernel
theorem dX12_replace_112 : decode cX12_replace 112 = .ok (.aload_n 0, 1) := by decide +kernel
theorem dX12_replace_113 : decode cX12_replace 113 = .ok (.getfield 32, 3) := by decide +kernel
theorem dX12_replace_116 : decode cX12_replace 116 = .ok (.iload_n 1, 1) := by decide +kernel
theorem dX12_replace_117 : decode cX12_replace 117 = .ok (.iaload, 1) := by decide +kernel
theorem dX12_replace_118 : decode cX12_replace 118 = .ok (.istore 6, 2) := by decide +kernel
theorem dX12_replace_120 : decode cX12_replace 120 = .ok (.aload_n 0, 1) := by decide +kernel
theorem dX12_replace_121 : decode cX12_replace 121 = .ok (.getfield 32, 3) := by decide +kernel
theorem dX12_replace_124 : decode cX12_replace 124 = .ok (.iload_n 1, 1) := by decide +kernel
theorem dX12_replace_125 : decode cX12_replace 125 = .ok (.iload_n 2, 1) := by decide +kernel
theorem dX12_replace_126 : decode cX12_replace 126 = .ok (.iastore, 1) := by decide +kernel
theorem dX12_replace_127 : decode cX12_replace 127 = .ok (.aload_n 0, 1) := by decide +kernel
theorem dX12_replace_128 : decode cX12_replace 128 = .ok (.iconst 0, 1) := by decide +kernel
theorem dX12_replace_129 : decode cX12_replace 129 = .ok (.putfield 104, 3) := by decide +kernel
theorem dX12_replace_132 : decode cX12_replace 132 = .ok (.iload 6, 2) := by decide +kernel
theorem dX12_replace_134 : decode cX12_replace 134 = .ok (.ireturn, 1) := by decide +kernel
theorem dX12_setPlatform_0 : decode cX12_setPlatform 0 = .ok (.aload_n 0, 1) := by decide +kernel
theorem dX12_setPlatform_1 : decode cX12_setPlatform 1 = .ok (.iload_n 1, 1) := by decide +kernel
theorem dX12_setPlatform_2 : decode cX12_setPlatform 2 = .ok (.iconst 0, 1) := by decide +kernel
theorem dX12_setPlatform_3 : decode cX12_setPlatform 3 = .ok (.iconst 2, 1) := by decide +kernel
theorem dX12_setPlatform_4 : decode cX12_setPlatform 4 = .ok (.invokestatic 75, 3) := by decide +kernel
theorem dX12_setPlatform_7 : decode cX12_setPlatform 7 = .ok (.ifCond .eq 7, 3) := by decide +kernel
theorem dX12_setPlatform_10 : decode cX12_setPlatform 10 = .ok (.iconst 0, 1) := by decide +kernel
theorem dX12_setPlatform_11 : decode cX12_setPlatform 11 = .ok (.goto 4, 3) := by decide +kernel
theorem dX12_setPlatform_14 : decode cX12_setPlatform 14 = .ok (.iconst 1, 1) := by decide +kernel
theorem dX12_setPlatform_15 : decode cX12_setPlatform 15 = .ok (.invokevirtual 101, 3) := by decide +kernel
theorem dX12_setPlatform_18 : decode cX12_setPlatform 18 = .ok (.ifCond .ne 5, 3) := by decide +kernel
theorem dX12_setPlatform_21 : decode cX12_setPlatform 21 = .ok (.iconst 0, 1) := by decide +kernel
theorem dX12_setPlatform_22 : decode cX12_setPlatform 22 = .ok (.ireturn, 1) := by decide +kernel
theorem dX12_setPlatform_23 : decode cX12_setPlatform 23 = .ok (.aload_n 0, 1) := by decide +kernel
theorem dX12_setPlatform_24 : decode cX12_setPlatform 24 = .ok (.getfield 131, 3) := by decide +kernel
theorem dX12_setPlatform_27 : decode cX12_setPlatform 27 = .ok (.istore_n 2, 1) := by decide +kernel
theorem dX12_setPlatform_28 : decode cX12_setPlatform 28 = .ok (.aload_n 0, 1) := by decide +kernel
theorem dX12_setPlatform_29 : decode cX12_setPlatform 29 = .ok (.iload_n 1, 1) := by decide +kernel
theorem dX12_setPlatform_30 : decode cX12_setPlatform 30 = .ok (.putfield 131, 3) := by decide +kernel
theorem dX12_setPlatform_33 : decode cX12_setPlatform 33 = .ok (.aload_n 0, 1) := by decide +kernel
theorem dX12_setPlatform_34 : decode cX12_setPlatform 34 = .ok (.iconst 0, 1) := by decide +kernel
theorem dX12_setPlatform_35 : decode cX12_setPlatform 35 = .ok (.putfield 104, 3) := by decide +kernel
theorem dX12_setPlatform_38 : decode cX12_setPlatform 38 = .ok (.iload_n 2, 1) := by decide +kernel
theorem dX12_setPlatform_39 : decode cX12_setPlatform 39 = .ok (.ireturn, 1) := by decide +kernel
theorem dX12_demandsOf_0 : decode cX12_demandsOf 0 = .ok (.iconst 0, 1) := by decide +kernel
theorem dX12_demandsOf_1 : decode cX12_demandsOf 1 = .ok (.istore_n 2, 1) := by decide +kernel
theorem dX12_demandsOf_2 : decode cX12_demandsOf 2 = .ok (.iconst 0, 1) := by decide +kernel
theorem dX12_demandsOf_3 : decode cX12_demandsOf 3 = .ok (.istore_n 3, 1) := by decide +kernel
theorem dX12_demandsOf_4 : decode cX12_demandsOf 4 = .ok (.iload_n 3, 1) := by decide +kernel
theorem dX12_demandsOf_5 : decode cX12_demandsOf 5 = .ok (.aload_n 0, 1) := by decide +kernel
theorem dX12_demandsOf_6 : decode cX12_demandsOf 6 = .ok (.getfield 125, 3) := by decide +kernel
theorem dX12_demandsOf_9 : decode cX12_demandsOf 9 = .ok (.if_icmp .ge 35, 3) := by decide +kernel
theorem dX12_demandsOf_12 : decode cX12_demandsOf 12 = .ok (.iload_n 2, 1) := by decide +kernel
theorem dX12_demandsOf_13 : decode cX12_demandsOf 13 = .ok (.iload_n 1, 1) := by decide +kernel
theorem dX12_demandsOf_14 : decode cX12_demandsOf 14 = .ok (.aload_n 0, 1) := by decide +kernel
theorem dX12_demandsOf_15 : decode cX12_demandsOf 15 = .ok (.getfield 26, 3) := by decide +kernel
theorem dX12_demandsOf_18 : decode cX12_demandsOf 18 = .ok (.iconst 4, 1) := by decide +kernel
theorem dX12_demandsOf_19 : decode cX12_demandsOf 19 = .ok (.iload_n 3, 1) := by decide +kernel
theorem dX12_demandsOf_20 : decode cX12_demandsOf 20 = .ok (.imul, 1) := by decide +kernel
theorem dX12_demandsOf_21 : decode cX12_demandsOf 21 = .ok (.iaload, 1) := by decide +kernel
theorem dX12_demandsOf_22 : decode cX12_demandsOf 22 = .ok (.ishr, 1) := by decide +kernel
theorem dX12_demandsOf_23 : decode cX12_demandsOf 23 = .ok (.iconst 1, 1) := by decide +kernel
theorem dX12_demandsOf_24 : decode cX12_demandsOf 24 = .ok (.iand, 1) := by decide +kernel
theorem dX12_demandsOf_25 : decode cX12_demandsOf 25 = .ok (.iconst 1, 1) := by decide +kernel
theorem dX12_demandsOf_26 : decode cX12_demandsOf 26 = .ok (.if_icmp .ne 9, 3) := by decide +kernel
theorem dX12_demandsOf_29 : decode cX12_demandsOf 29 = .ok (.iconst 1, 1) := by decide +kernel
theorem dX12_demandsOf_30 : decode cX12_demandsOf 30 = .ok (.iload_n 3, 1) := by decide +kernel
theorem dX12_demandsOf_31 : decode cX12_demandsOf 31 = .ok (.ishl, 1) := by decide +kernel
theorem dX12_demandsOf_32 : decode cX12_demandsOf 32 = .ok (.goto 4, 3) := by decide +kernel
theorem dX12_demandsOf_35 : decode cX12_demandsOf 35 = .ok (.iconst 0, 1) := by decide +kernel
theorem dX12_demandsOf_36 : decode cX12_demandsOf 36 = .ok (.ior, 1) := by decide +kernel
theorem dX12_demandsOf_37 : decode cX12_demandsOf 37 = .ok (.istore_n 2, 1) := by decide +kernel
theorem dX12_demandsOf_38 : decode cX12_demandsOf 38 = .ok (.iinc 3 1, 3) := by decide +kernel
theorem dX12_demandsOf_41 : decode cX12_demandsOf 41 = .ok (.goto (-37), 3) := by decide +kernel
theorem dX12_demandsOf_44 : decode cX12_demandsOf 44 = .ok (.iload_n 2, 1) := by decide +kernel
theorem dX12_demandsOf_45 : decode cX12_demandsOf 45 = .ok (.ireturn, 1) := by decide +kernel
theorem dX12_isDemanded_0 : decode cX12_isDemanded 0 = .ok (.iconst 1, 1) := by decide +kernel
theorem dX12_isDemanded_1 : decode cX12_isDemanded 1 = .ok (.istore_n 3, 1) := by decide +kernel
theorem dX12_isDemanded_2 : decode cX12_isDemanded 2 = .ok (.iconst 0, 1) := by decide +kernel
theorem dX12_isDemanded_3 : decode cX12_isDemanded 3 = .ok (.istore 4, 2) := by decide +kernel
theorem dX12_isDemanded_5 : decode cX12_isDemanded 5 = .ok (.iload 4, 2) := by decide +kernel
theorem dX12_isDemanded_7 : decode cX12_isDemanded 7 = .ok (.aload_n 0, 1) := by decide +kernel
theorem dX12_isDemanded_8 : decode cX12_isDemanded 8 = .ok (.getfield 125, 3) := by decide +kernel
theorem dX12_isDemanded_11 : decode cX12_isDemanded 11 = .ok (.if_icmp .ge 92, 3) := by decide +kernel
theorem dX12_isDemanded_14 : decode cX12_isDemanded 14 = .ok (.aload_n 0, 1) := by decide +kernel
theorem dX12_isDemanded_15 : decode cX12_isDemanded 15 = .ok (.getfield 137, 3) := by decide +kernel
theorem dX12_isDemanded_18 : decode cX12_isDemanded 18 = .ok (.iload 4, 2) := by decide +kernel
theorem dX12_isDemanded_20 : decode cX12_isDemanded 20 = .ok (.ishr, 1) := by decide +kernel
theorem dX12_isDemanded_21 : decode cX12_isDemanded 21 = .ok (.iconst 1, 1) := by decide +kernel
theorem dX12_isDemanded_22 : decode cX12_isDemanded 22 = .ok (.iand, 1) := by decide +kernel
theorem dX12_isDemanded_23 : decode cX12_isDemanded 23 = .ok (.iconst 1, 1) := by decide +kernel
theorem dX12_isDemanded_24 : decode cX12_isDemanded 24 = .ok (.if_icmp .ne 26, 3) := by decide +kernel
theorem dX12_isDemanded_27 : decode cX12_isDemanded 27 = .ok (.aload_n 0, 1) := by decide +kernel
theorem dX12_isDemanded_28 : decode cX12_isDemanded 28 = .ok (.aload_n 0, 1) := by decide +kernel
theorem dX12_isDemanded_29 : decode cX12_isDemanded 29 = .ok (.getfield 26, 3) := by decide +kernel
theorem dX12_isDemanded_32 : decode cX12_isDemanded 32 = .ok (.iconst 4, 1) := by decide +kernel
theorem dX12_isDemanded_33 : decode cX12_isDemanded 33 = .ok (.iload 4, 2) := by decide +kernel
theorem dX12_isDemanded_35 : decode cX12_isDemanded 35 = .ok (.imul, 1) := by decide +kernel
theorem dX12_isDemanded_36 : decode cX12_isDemanded 36 = .ok (.iconst 1, 1) := by decide +kernel
theorem dX12_isDemanded_37 : decode cX12_isDemanded 37 = .ok (.iadd, 1) := by decide +kernel
theorem dX12_isDemanded_38 : decode cX12_isDemanded 38 = .ok (.iaload, 1) := by decide +kernel
theorem dX12_isDemanded_39 : decode cX12_isDemanded 39 = .ok (.invokevirtual 140, 3) := by decide +kernel
theorem dX12_isDemanded_42 : decode cX12_isDemanded 42 = .ok (.iload_n 1, 1) := by decide +kernel
theorem dX12_isDemanded_43 : decode cX12_isDemanded 43 = .ok (.if_icmp .ne 7, 3) := by decide +kernel
theorem dX12_isDemanded_46 : decode cX12_isDemanded 46 = .ok (.iconst 1, 1) := by decide +kernel
theorem dX12_isDemanded_47 : decode cX12_isDemanded 47 = .ok (.goto 4, 3) := by decide +kernel
theorem dX12_isDemanded_50 : decode cX12_isDemanded 50 = .ok (.iconst 0, 1) := by decide +kernel
theorem dX12_isDemanded_51 : decode cX12_isDemanded 51 = .ok (.istore 5, 2) := by decide +kernel
theorem dX12_isDemanded_53 : decode cX12_isDemanded 53 = .ok (.iload_n 3, 1) := by decide +kernel
theorem dX12_isDemanded_54 : decode cX12_isDemanded 54 = .ok (.ifCond .eq 41, 3) := by decide +kernel
theorem dX12_isDemanded_57 : decode cX12_isDemanded 57 = .ok (.iload 5, 2) := by decide +kernel
theorem dX12_isDemanded_59 : decode cX12_isDemanded 59 = .ok (.ifCond .eq 32, 3) := by decide +kernel
theorem dX12_isDemanded_62 : decode cX12_isDemanded 62 = .ok (.iload_n 2, 1) := by decide +kernel
theorem dX12_isDemanded_63 : decode cX12_isDemanded 63 = .ok (.iconst (-1), 1) := by decide +kernel
theorem dX12_isDemanded_64 : decode cX12_isDemanded 64 = .ok (.if_icmp .eq 31, 3) := by decide +kernel
theorem dX12_isDemanded_67 : decode cX12_isDemanded 67 = .ok (.aload_n 0, 1) := by decide +kernel
theorem dX12_isDemanded_68 : decode cX12_isDemanded 68 = .ok (.getfield 22, 3) := by decide +kernel
theorem dX12_isDemanded_71 : decode cX12_isDemanded 71 = .ok (.bipush 24, 2) := by decide +kernel
theorem dX12_isDemanded_73 : decode cX12_isDemanded 73 = .ok (.aload_n 0, 1) := by decide +kernel
theorem dX12_isDemanded_74 : decode cX12_isDemanded 74 = .ok (.getfield 26, 3) := by decide +kernel
theorem dX12_isDemanded_77 : decode cX12_isDemanded 77 = .ok (.iconst 4, 1) := by decide +kernel
theorem dX12_isDemanded_78 : decode cX12_isDemanded 78 = .ok (.iload 4, 2) := by decide +kernel
theorem dX12_isDemanded_80 : decode cX12_isDemanded 80 = .ok (.imul, 1) := by decide +kernel
theorem dX12_isDemanded_81 : decode cX12_isDemanded 81 = .ok (.iconst 2, 1) := by decide +kernel
theorem dX12_isDemanded_82 : decode cX12_isDemanded 82 = .ok (.iadd, 1) := by decide +kernel
theorem dX12_isDemanded_83 : decode cX12_isDemanded 83 = .ok (.iaload, 1) := by decide +kernel
theorem dX12_isDemanded_84 : decode cX12_isDemanded 84 = .ok (.imul, 1) := by decide +kernel
theorem dX12_isDemanded_85 : decode cX12_isDemanded 85 = .ok (.iload_n 2, 1) := by decide +kernel
theorem dX12_isDemanded_86 : decode cX12_isDemanded 86 = .ok (.iadd, 1) := by decide +kernel
theorem dX12_isDemanded_87 : decode cX12_isDemanded 87 = .ok (.baload, 1) := by decide +kernel
theorem dX12_isDemanded_88 : decode cX12_isDemanded 88 = .ok (.ifCond .eq 7, 3) := by decide +kernel
theorem dX12_isDemanded_91 : decode cX12_isDemanded 91 = .ok (.iconst 1, 1) := by decide +kernel
theorem dX12_isDemanded_92 : decode cX12_isDemanded 92 = .ok (.goto 4, 3) := by decide +kernel
theorem dX12_isDemanded_95 : decode cX12_isDemanded 95 = .ok (.iconst 0, 1) := by decide +kernel
theorem dX12_isDemanded_96 : decode cX12_isDemanded 96 = .ok (.istore_n 3, 1) := by decide +kernel
theorem dX12_isDemanded_97 : decode cX12_isDemanded 97 = .ok (.iinc 4 1, 3) := by decide +kernel
theorem dX12_isDemanded_100 : decode cX12_isDemanded 100 = .ok (.goto (-95), 3) := by decide +kernel
theorem dX12_isDemanded_103 : decode cX12_isDemanded 103 = .ok (.iload_n 3, 1) := by decide +kernel
theorem dX12_isDemanded_104 : decode cX12_isDemanded 104 = .ok (.ireturn, 1) := by decide +kernel
theorem dX12_reached_0 : decode cX12_reached 0 = .ok (.iconst 0, 1) := by decide +kernel
theorem dX12_reached_1 : decode cX12_reached 1 = .ok (.istore_n 1, 1) := by decide +kernel
theorem dX12_reached_2 : decode cX12_reached 2 = .ok (.iconst 0, 1) := by decide +kernel
theorem dX12_reached_3 : decode cX12_reached 3 = .ok (.istore_n 2, 1) := by decide +kernel
theorem dX12_reached_4 : decode cX12_reached 4 = .ok (.iload_n 2, 1) := by decide +kernel
theorem dX12_reached_5 : decode cX12_reached 5 = .ok (.aload_n 0, 1) := by decide +kernel
theorem dX12_reached_6 : decode cX12_reached 6 = .ok (.getfield 125, 3) := by decide +kernel
theorem dX12_reached_9 : decode cX12_reached 9 = .ok (.if_icmp .ge 44, 3) := by decide +kernel
theorem dX12_reached_12 : decode cX12_reached 12 = .ok (.iload_n 1, 1) := by decide +kernel
theorem dX12_reached_13 : decode cX12_reached 13 = .ok (.aload_n 0, 1) := by decide +kernel
theorem dX12_reached_14 : decode cX12_reached 14 = .ok (.getfield 137, 3) := by decide +kernel
theorem dX12_reached_17 : decode cX12_reached 17 = .ok (.iload_n 2, 1) := by decide +kernel
theorem dX12_reached_18 : decode cX12_reached 18 = .ok (.ishr, 1) := by decide +kernel
theorem dX12_reached_19 : decode cX12_reached 19 = .ok (.iconst 1, 1) := by decide +kernel
theorem dX12_reached_20 : decode cX12_reached 20 = .ok (.iand, 1) := by decide +kernel
theorem dX12_reached_21 : decode cX12_reached 21 = .ok (.iconst 1, 1) := by decide +kernel
theorem dX12_reached_22 : decode cX12_reached 22 = .ok (.if_icmp .ne 22, 3) := by decide +kernel
theorem dX12_reached_25 : decode cX12_reached 25 = .ok (.iconst 1, 1) := by decide +kernel
theorem dX12_reached_26 : decode cX12_reached 26 = .ok (.aload_n 0, 1) := by decide +kernel
theorem dX12_reached_27 : decode cX12_reached 27 = .ok (.aload_n 0, 1) := by decide +kernel
theorem dX12_reached_28 : decode cX12_reached 28 = .ok (.getfield 26, 3) := by decide +kernel
theorem dX12_reached_31 : decode cX12_reached 31 = .ok (.iconst 4, 1) := by decide +kernel
theorem dX12_reached_32 : decode cX12_reached 32 = .ok (.iload_n 2, 1) := by decide +kernel
theorem dX12_reached_33 : decode cX12_reached 33 = .ok (.imul, 1) := by decide +kernel
theorem dX12_reached_34 : decode cX12_reached 34 = .ok (.iconst 1, 1) := by decide +kernel
theorem dX12_reached_35 : decode cX12_reached 35 = .ok (.iadd, 1) := by decide +kernel
theorem dX12_reached_36 : decode cX12_reached 36 = .ok (.iaload, 1) := by decide +kernel
theorem dX12_reached_37 : decode cX12_reached 37 = .ok (.invokevirtual 140, 3) := by decide +kernel
theorem dX12_reached_40 : decode cX12_reached 40 = .ok (.ishl, 1) := by decide +kernel
theorem dX12_reached_41 : decode cX12_reached 41 = .ok (.goto 4, 3) := by decide +kernel
theorem dX12_reached_44 : decode cX12_reached 44 = .ok (.iconst 0, 1) := by decide +kernel
theorem dX12_reached_45 : decode cX12_reached 45 = .ok (.ior, 1) := by decide +kernel
theorem dX12_reached_46 : decode cX12_reached 46 = .ok (.istore_n 1, 1) := by decide +kernel
theorem dX12_reached_47 : decode cX12_reached 47 = .ok (.iinc 2 1, 3) := by decide +kernel
theorem dX12_reached_50 : decode cX12_reached 50 = .ok (.goto (-46), 3) := by decide +kernel
theorem dX12_reached_53 : decode cX12_reached 53 = .ok (.iconst (-1), 1) := by decide +kernel
theorem dX12_reached_54 : decode cX12_reached 54 = .ok (.istore_n 2, 1) := by decide +kernel
theorem dX12_reached_55 : decode cX12_reached 55 = .ok (.iload_n 2, 1) := by decide +kernel
theorem dX12_reached_56 : decode cX12_reached 56 = .ok (.iload_n 1, 1) := by decide +kernel
theorem dX12_reached_57 : decode cX12_reached 57 = .ok (.if_icmp .eq 86, 3) := by decide +kernel
theorem dX12_reached_60 : decode cX12_reached 60 = .ok (.iload_n 1, 1) := by decide +kernel
theorem dX12_reached_61 : decode cX12_reached 61 = .ok (.istore_n 2, 1) := by decide +kernel
theorem dX12_reached_62 : decode cX12_reached 62 = .ok (.iconst 0, 1) := by decide +kernel
theorem dX12_reached_63 : decode cX12_reached 63 = .ok (.istore_n 3, 1) := by decide +kernel
theorem dX12_reached_64 : decode cX12_reached 64 = .ok (.iload_n 3, 1) := by decide +kernel
theorem dX12_reached_65 : decode cX12_reached 65 = .ok (.aload_n 0, 1) := by decide +kernel
theorem dX12_reached_66 : decode cX12_reached 66 = .ok (.getfield 79, 3) := by decide +kernel
theorem dX12_reached_69 : decode cX12_reached 69 = .ok (.if_icmp .ge 71, 3) := by decide +kernel
theorem dX12_reached_72 : decode cX12_reached 72 = .ok (.iconst 0, 1) := by decide +kernel
theorem dX12_reached_73 : decode cX12_reached 73 = .ok (.istore 4, 2) := by decide +kernel
theorem dX12_reached_75 : decode cX12_reached 75 = .ok (.iload 4, 2) := by decide +kernel
theorem dX12_reached_77 : decode cX12_reached 77 = .ok (.aload_n 0, 1) := by decide +kernel
theorem dX12_reached_78 : decode cX12_reached 78 = .ok (.getfield 7, 3) := by decide +kernel
theorem dX12_reached_81 : decode cX12_reached 81 = .ok (.bipush 9, 2) := by decide +kernel
theorem dX12_reached_83 : decode cX12_reached 83 = .ok (.iload_n 3, 1) := by decide +kernel
theorem dX12_reached_84 : decode cX12_reached 84 = .ok (.imul, 1) := by decide +kernel
theorem dX12_reached_85 : decode cX12_reached 85 = .ok (.bipush 8, 2) := by decide +kernel
theorem dX12_reached_87 : decode cX12_reached 87 = .ok (.iadd, 1) := by decide +kernel
theorem dX12_reached_88 : decode cX12_reached 88 = .ok (.iaload, 1) := by decide +kernel
theorem dX12_reached_89 : decode cX12_reached 89 = .ok (.if_icmp .ge 45, 3) := by decide +kernel
theorem dX12_reached_92 : decode cX12_reached 92 = .ok (.iload_n 1, 1) := by decide +kernel
theorem dX12_reached_93 : decode cX12_reached 93 = .ok (.aload_n 0, 1) := by decide +kernel
theorem dX12_reached_94 : decode cX12_reached 94 = .ok (.iload_n 3, 1) := by decide +kernel
theorem dX12_reached_95 : decode cX12_reached 95 = .ok (.invokevirtual 97, 3) := by decide +kernel
theorem dX12_reached_98 : decode cX12_reached 98 = .ok (.ishr, 1) := by decide +kernel
theorem dX12_reached_99 : decode cX12_reached 99 = .ok (.iconst 1, 1) := by decide +kernel
theorem dX12_reached_100 : decode cX12_reached 100 = .ok (.iand, 1) := by decide +kernel
theorem dX12_reached_101 : decode cX12_reached 101 = .ok (.iconst 1, 1) := by decide +kernel
theorem dX12_reached_102 : decode cX12_reached 102 = .ok (.if_icmp .ne 32, 3) := by decide +kernel
theorem dX12_reached_105 : decode cX12_reached 105 = .ok (.iload_n 1, 1) := by decide +kernel
theorem dX12_reached_106 : decode cX12_reached 106 = .ok (.iconst 1, 1) := by decide +kernel
theorem dX12_reached_107 : decode cX12_reached 107 = .ok (.aload_n 0, 1) := by decide +kernel
theorem dX12_reached_108 : decode cX12_reached 108 = .ok (.aload_n 0, 1) := by decide +kernel
theorem dX12_reached_109 : decode cX12_reached 109 = .ok (.getfield 16, 3) := by decide +kernel
theorem dX12_reached_112 : decode cX12_reached 112 = .ok (.bipush 6, 2) := by decide +kernel
theorem dX12_reached_114 : decode cX12_reached 114 = .ok (.iconst 5, 1) := by decide +kernel
theorem dX12_reached_115 : decode cX12_reached 115 = .ok (.iload_n 3, 1) := by decide +kernel
theorem dX12_reached_116 : decode cX12_reached 116 = .ok (.imul, 1) := by decide +kernel
theorem dX12_reached_117 : decode cX12_reached 117 = .ok (.iload 4, 2) := by decide +kernel
theorem dX12_reached_119 : decode cX12_reached 119 = .ok (.iadd, 1) := by decide +kernel
theorem dX12_reached_120 : decode cX12_reached 120 = .ok (.imul, 1) := by decide +kernel
theorem dX12_reached_121 : decode cX12_reached 121 = .ok (.iaload, 1) := by decide +kernel
theorem dX12_reached_122 : decode cX12_reached 122 = .ok (.invokevirtual 140, 3) := by decide +kernel
theorem dX12_reached_125 : decode cX12_reached 125 = .ok (.ishl, 1) := by decide +kernel
theorem dX12_reached_126 : decode cX12_reached 126 = .ok (.ior, 1) := by decide +kernel
theorem dX12_reached_127 : decode cX12_reached 127 = .ok (.istore_n 1, 1) := by decide +kernel
theorem dX12_reached_128 : decode cX12_reached 128 = .ok (.iinc 4 1, 3) := by decide +kernel
theorem dX12_reached_131 : decode cX12_reached 131 = .ok (.goto (-56), 3) := by decide +kernel
theorem dX12_reached_134 : decode cX12_reached 134 = .ok (.iinc 3 1, 3) := by decide +kernel
theorem dX12_reached_137 : decode cX12_reached 137 = .ok (.goto (-73), 3) := by decide +kernel
theorem dX12_reached_140 : decode cX12_reached 140 = .ok (.goto (-85), 3) := by decide +kernel
theorem dX12_reached_143 : decode cX12_reached 143 = .ok (.iload_n 1, 1) := by decide +kernel
theorem dX12_reached_144 : decode cX12_reached 144 = .ok (.ireturn, 1) := by decide +kernel
theorem dX12_begin_0 : decode cX12_begin 0 = .ok (.aload_n 0, 1) := by decide +kernel
theorem dX12_begin_1 : decode cX12_begin 1 = .ok (.invokevirtual 143, 3) := by decide +kernel
theorem dX12_begin_4 : decode cX12_begin 4 = .ok (.istore_n 1, 1) := by decide +kernel
theorem dX12_begin_5 : decode cX12_begin 5 = .ok (.iconst 0, 1) := by decide +kernel
theorem dX12_begin_6 : decode cX12_begin 6 = .ok (.istore_n 2, 1) := by decide +kernel
theorem dX12_begin_7 : decode cX12_begin 7 = .ok (.iload_n 2, 1) := by decide +kernel
theorem dX12_begin_8 : decode cX12_begin 8 = .ok (.bipush 6, 2) := by decide +kernel
theorem dX12_begin_10 : decode cX12_begin 10 = .ok (.if_icmp .ge 219, 3) := by decide +kernel
theorem dX12_begin_13 : decode cX12_begin 13 = .ok (.iconst 0, 1) := by decide +kernel
theorem dX12_begin_14 : decode cX12_begin 14 = .ok (.istore_n 3, 1) := by decide +kernel
theorem dX12_begin_15 : decode cX12_begin 15 = .ok (.aload_n 0, 1) := by decide +kernel
theorem dX12_begin_16 : decode cX12_begin 16 = .ok (.getfield 62, 3) := by decide +kernel
theorem dX12_begin_19 : decode cX12_begin 19 = .ok (.iconst (-1), 1) := by decide +kernel
theorem dX12_begin_20 : decode cX12_begin 20 = .ok (.if_icmp .eq 19, 3) := by decide +kernel
theorem dX12_begin_23 : decode cX12_begin 23 = .ok (.aload_n 0, 1) := by decide +kernel
theorem dX12_begin_24 : decode cX12_begin 24 = .ok (.aload_n 0, 1) := by decide +kernel
theorem dX12_begin_25 : decode cX12_begin 25 = .ok (.getfield 62, 3) := by decide +kernel
theorem dX12_begin_28 : decode cX12_begin 28 = .ok (.invokevirtual 97, 3) := by decide +kernel
theorem dX12_begin_31 : decode cX12_begin 31 = .ok (.iload_n 2, 1) := by decide +kernel
theorem dX12_begin_32 : decode cX12_begin 32 = .ok (.if_icmp .ne 7, 3) := by decide +kernel
theorem dX12_begin_35 : decode cX12_begin 35 = .ok (.iconst 1, 1) := by decide +kernel
theorem dX12_begin_36 : decode cX12_begin 36 = .ok (.goto 4, 3) := by decide +kernel
theorem dX12_begin_39 : decode cX12_begin 39 = .ok (.iconst 0, 1) := by decide +kernel
theorem dX12_begin_40 : decode cX12_begin 40 = .ok (.istore 4, 2) := by decide +kernel
theorem dX12_begin_42 : decode cX12_begin 42 = .ok (.iconst 0, 1) := by decide +kernel
theorem dX12_begin_43 : decode cX12_begin 43 = .ok (.istore 5, 2) := by decide +kernel
theorem dX12_begin_45 : decode cX12_begin 45 = .ok (.iload 5, 2) := by decide +kernel
theorem dX12_begin_47 : decode cX12_begin 47 = .ok (.aload_n 0, 1) := by decide +kernel
theorem dX12_begin_48 : decode cX12_begin 48 = .ok (.getfield 79, 3) := by decide +kernel
theorem dX12_begin_51 : decode cX12_begin 51 = .ok (.if_icmp .ge 137, 3) := by decide +kernel
theorem dX12_begin_54 : decode cX12_begin 54 = .ok (.iload_n 1, 1) := by decide +kernel
theorem dX12_begin_55 : decode cX12_begin 55 = .ok (.iload_n 2, 1) := by decide +kernel
theorem dX12_begin_56 : decode cX12_begin 56 = .ok (.ishr, 1) := by decide +kernel
theorem dX12_begin_57 : decode cX12_begin 57 = .ok (.iconst 1, 1) := by decide +kernel
theorem dX12_begin_58 : decode cX12_begin 58 = .ok (.iand, 1) := by decide +kernel
theorem dX12_begin_59 : decode cX12_begin 59 = .ok (.iconst 1, 1) := by decide +kernel
theorem dX12_begin_60 : decode cX12_begin 60 = .ok (.if_icmp .ne 128, 3) := by decide +kernel
theorem dX12_begin_63 : decode cX12_begin 63 = .ok (.aload_n 0, 1) := by decide +kernel
theorem dX12_begin_64 : decode cX12_begin 64 = .ok (.iload 5, 2) := by decide +kernel
theorem dX12_begin_66 : decode cX12_begin 66 = .ok (.invokevirtual 97, 3) := by decide +kernel
theorem dX12_begin_69 : decode cX12_begin 69 = .ok (.iload_n 2, 1) := by decide +kernel
theorem dX12_begin_70 : decode cX12_begin 70 = .ok (.if_icmp .ne 112, 3) := by decide +kernel
theorem dX12_begin_73 : decode cX12_begin 73 = .ok (.aload_n 0, 1) := by decide +kernel
theorem dX12_begin_74 : decode cX12_begin 74 = .ok (.iload 5, 2) := by decide +kernel
theorem dX12_begin_76 : decode cX12_begin 76 = .ok (.invokevirtual 134, 3) := by decide +kernel
theorem dX12_begin_79 : decode cX12_begin 79 = .ok (.ifCond .ne 103, 3) := by decide +kernel
theorem dX12_begin_82 : decode cX12_begin 82 = .ok (.iload 4, 2) := by decide +kernel
theorem dX12_begin_84 : decode cX12_begin 84 = .ok (.ifCond .eq 12, 3) := by decide +kernel
theorem dX12_begin_87 : decode cX12_begin 87 = .ok (.aload_n 0, 1) := by decide +kernel
theorem dX12_begin_88 : decode cX12_begin 88 = .ok (.getfield 62, 3) := by decide +kernel
theorem dX12_begin_91 : decode cX12_begin 91 = .ok (.iload 5, 2) := by decide +kernel
theorem dX12_begin_93 : decode cX12_begin 93 = .ok (.if_icmp .ne 89, 3) := by decide +kernel
theorem dX12_begin_96 : decode cX12_begin 96 = .ok (.aload_n 0, 1) := by decide +kernel
theorem dX12_begin_97 : decode cX12_begin 97 = .ok (.iload_n 2, 1) := by decide +kernel
theorem dX12_begin_98 : decode cX12_begin 98 = .ok (.iload 5, 2) := by decide +kernel
theorem dX12_begin_100 : decode cX12_begin 100 = .ok (.invokevirtual 147, 3) := by decide +kernel
theorem dX12_begin_103 : decode cX12_begin 103 = .ok (.ifCond .eq 79, 3) := by decide +kernel
theorem dX12_begin_106 : decode cX12_begin 106 = .ok (.iload_n 3, 1) := by decide +kernel
theorem dX12_begin_107 : decode cX12_begin 107 = .ok (.istore 6, 2) := by decide +kernel
theorem dX12_begin_109 : decode cX12_begin 109 = .ok (.iload 6, 2) := by decide +kernel
theorem dX12_begin_111 : decode cX12_begin 111 = .ok (.ifCond .le 55, 3) := by decide +kernel
theorem dX12_begin_114 : decode cX12_begin 114 = .ok (.aload_n 0, 1) := by decide +kernel
theorem dX12_begin_115 : decode cX12_begin 115 = .ok (.aload_n 0, 1) := by decide +kernel
theorem dX12_begin_116 : decode cX12_begin 116 = .ok (.getfield 53, 3) := by decide +kernel
theorem dX12_begin_119 : decode cX12_begin 119 = .ok (.iconst 5, 1) := by decide +kernel
theorem dX12_begin_120 : decode cX12_begin 120 = .ok (.iload_n 2, 1) := by decide +kernel
theorem dX12_begin_121 : decode cX12_begin 121 = .ok (.imul, 1) := by decide +kernel
theorem dX12_begin_122 : decode cX12_begin 122 = .ok (.iload 6, 2) := by decide +kernel
theorem dX12_begin_124 : decode cX12_begin 124 = .ok (.iadd, 1) := by decide +kernel
theorem dX12_begin_125 : decode cX12_begin 125 = .ok (.iconst 1, 1) := by decide +kernel
theorem dX12_begin_126 : decode cX12_begin 126 = .ok (.isub, 1) := by decide +kernel
theorem dX12_begin_127 : decode cX12_begin 127 = .ok (.iaload, 1) := by decide +kernel
theorem dX12_begin_128 : decode cX12_begin 128 = .ok (.iload 5, 2) := by decide +kernel
theorem dX12_begin_130 : decode cX12_begin 130 = .ok (.invokevirtual 111, 3) := by decide +kernel
theorem dX12_begin_133 : decode cX12_begin 133 = .ok (.ifCond .ge 33, 3) := by decide +kernel
theorem dX12_begin_136 : decode cX12_begin 136 = .ok (.aload_n 0, 1) := by decide +kernel
theorem dX12_begin_137 : decode cX12_begin 137 = .ok (.getfield 53, 3) := by decide +kernel
theorem dX12_begin_140 : decode cX12_begin 140 = .ok (.iconst 5, 1) := by decide +kernel
theorem dX12_begin_141 : decode cX12_begin 141 = .ok (.iload_n 2, 1) := by decide +kernel
theorem dX12_begin_142 : decode cX12_begin 142 = .ok (.imul, 1) := by decide +kernel
theorem dX12_begin_143 : decode cX12_begin 143 = .ok (.iload 6, 2) := by decide +kernel
theorem dX12_begin_145 : decode cX12_begin 145 = .ok (.iadd, 1) := by decide +kernel
theorem dX12_begin_146 : decode cX12_begin 146 = .ok (.aload_n 0, 1) := by decide +kernel
theorem dX12_begin_147 : decode cX12_begin 147 = .ok (.getfield 53, 3) := by decide +kernel
theorem dX12_begin_150 : decode cX12_begin 150 = .ok (.iconst 5, 1) := by decide +kernel
theorem dX12_begin_151 : decode cX12_begin 151 = .ok (.iload_n 2, 1) := by decide +kernel
theorem dX12_begin_152 : decode cX12_begin 152 = .ok (.imul, 1) := by decide +kernel
theorem dX12_begin_153 : decode cX12_begin 153 = .ok (.iload 6, 2) := by decide +kernel
theorem dX12_begin_155 : decode cX12_begin 155 = .ok (.iadd, 1) := by decide +kernel
theorem dX12_begin_156 : decode cX12_begin 156 = .ok (.iconst 1, 1) := by decide +kernel
theorem dX12_begin_157 : decode cX12_begin 157 = .ok (.isub, 1) := by decide +kernel
theorem dX12_begin_158 : decode cX12_begin 158 = .ok (.iaload, 1) := by decide +kernel
theorem dX12_begin_159 : decode cX12_begin 159 = .ok (.iastore, 1) := by decide +kernel
theorem dX12_begin_160 : decode cX12_begin 160 = .ok (.iinc 6 (-1), 3) := by decide +kernel
theorem dX12_begin_163 : decode cX12_begin 163 = .ok (.goto (-54), 3) := by decide +kernel
theorem dX12_begin_166 : decode cX12_begin 166 = .ok (.aload_n 0, 1) := by decide +kernel
theorem dX12_begin_167 : decode cX12_begin 167 = .ok (.getfield 53, 3) := by decide +kernel
theorem dX12_begin_170 : decode cX12_begin 170 = .ok (.iconst 5, 1) := by decide +kernel
theorem dX12_begin_171 : decode cX12_begin 171 = .ok (.iload_n 2, 1) := by decide +kernel
theorem dX12_begin_172 : decode cX12_begin 172 = .ok (.imul, 1) := by decide +kernel
theorem dX12_begin_173 : decode cX12_begin 173 = .ok (.iload 6, 2) := by decide +kernel
theorem dX12_begin_175 : decode cX12_begin 175 = .ok (.iadd, 1) := by decide +kernel
theorem dX12_begin_176 : decode cX12_begin 176 = .ok (.iload 5, 2) := by decide +kernel
theorem dX12_begin_178 : decode cX12_begin 178 = .ok (.iastore, 1) := by decide +kernel
theorem dX12_begin_179 : decode cX12_begin 179 = .ok (.iinc 3 1, 3) := by decide +kernel
theorem dX12_begin_182 : decode cX12_begin 182 = .ok (.iinc 5 1, 3) := by decide +kernel
theorem dX12_begin_185 : decode cX12_begin 185 = .ok (.goto (-140), 3) := by decide +kernel
theorem dX12_begin_188 : decode cX12_begin 188 = .ok (.iload 4, 2) := by decide +kernel
theorem dX12_begin_190 : decode cX12_begin 190 = .ok (.ifCond .ne 26, 3) := by decide +kernel
theorem dX12_begin_193 : decode cX12_begin 193 = .ok (.aload_n 0, 1) := by decide +kernel
theorem dX12_begin_194 : decode cX12_begin 194 = .ok (.iload_n 2, 1) := by decide +kernel
theorem dX12_begin_195 : decode cX12_begin 195 = .ok (.iconst (-1), 1) := by decide +kernel
theorem dX12_begin_196 : decode cX12_begin 196 = .ok (.invokevirtual 147, 3) := by decide +kernel
theorem dX12_begin_199 : decode cX12_begin 199 = .ok (.ifCond .eq 17, 3) := by decide +kernel
theorem dX12_begin_202 : decode cX12_begin 202 = .ok (.aload_n 0, 1) := by decide +kernel
theorem dX12_begin_203 : decode cX12_begin 203 = .ok (.getfield 53, 3) := by decide +kernel
theorem dX12_begin_206 : decode cX12_begin 206 = .ok (.iconst 5, 1) := by decide +kernel
theorem dX12_begin_207 : decode cX12_begin 207 = .ok (.iload_n 2, 1) := by decide +kernel
theorem dX12_begin_208 : decode cX12_begin 208 = .ok (.imul, 1) := by decide +kernel
theorem dX12_begin_209 : decode cX12_begin 209 = .ok (.iload_n 3, 1) := by decide +kernel
theorem dX12_begin_210 : decode cX12_begin 210 = .ok (.iadd, 1) := by decide +kernel
theorem dX12_begin_211 : decode cX12_begin 211 = .ok (.iconst (-1), 1) := by decide +kernel
theorem dX12_begin_212 : decode cX12_begin 212 = .ok (.iastore, 1) := by decide +kernel
theorem dX12_begin_213 : decode cX12_begin 213 = .ok (.iinc 3 1, 3) := by decide +kernel
theorem dX12_begin_216 : decode cX12_begin 216 = .ok (.aload_n 0, 1) := by decide +kernel
theorem dX12_begin_217 : decode cX12_begin 217 = .ok (.getfield 56, 3) := by decide +kernel
theorem dX12_begin_220 : decode cX12_begin 220 = .ok (.iload_n 2, 1) := by decide +kernel
theorem dX12_begin_221 : decode cX12_begin 221 = .ok (.iload_n 3, 1) := by decide +kernel
theorem dX12_begin_222 : decode cX12_begin 222 = .ok (.iastore, 1) := by decide +kernel
theorem dX12_begin_223 : decode cX12_begin 223 = .ok (.iinc 2 1, 3) := by decide +kernel
theorem dX12_begin_226 : decode cX12_begin 226 = .ok (.goto (-219), 3) := by decide +kernel
theorem dX12_begin_229 : decode cX12_begin 229 = .ok (.return_, 1) := by decide +kernel
theorem dX12_isBroken_0 : decode cX12_isBroken 0 = .ok (.aload_n 0, 1) := by decide +kernel
theorem dX12_isBroken_1 : decode cX12_isBroken 1 = .ok (.getfield 44, 3) := by decide +kernel
theorem dX12_isBroken_4 : decode cX12_isBroken 4 = .ok (.iload_n 1, 1) := by decide +kernel
theorem dX12_isBroken_5 : decode cX12_isBroken 5 = .ok (.iaload, 1) := by decide +kernel
theorem dX12_isBroken_6 : decode cX12_isBroken 6 = .ok (.istore 4, 2) := by decide +kernel
theorem dX12_isBroken_8 : decode cX12_isBroken 8 = .ok (.iconst 0, 1) := by decide +kernel
theorem dX12_isBroken_9 : decode cX12_isBroken 9 = .ok (.istore 5, 2) := by decide +kernel
theorem dX12_isBroken_11 : decode cX12_isBroken 11 = .ok (.iload 4, 2) := by decide +kernel
theorem dX12_isBroken_13 : decode cX12_isBroken 13 = .ok (.iconst (-1), 1) := by decide +kernel
theorem dX12_isBroken_14 : decode cX12_isBroken 14 = .ok (.if_icmp .eq 151, 3) := by decide +kernel
theorem dX12_isBroken_17 : decode cX12_isBroken 17 = .ok (.iload 5, 2) := by decide +kernel
theorem dX12_isBroken_19 : decode cX12_isBroken 19 = .ok (.aload_n 0, 1) := by decide +kernel
theorem dX12_isBroken_20 : decode cX12_isBroken 20 = .ok (.getfield 7, 3) := by decide +kernel
theorem dX12_isBroken_23 : decode cX12_isBroken 23 = .ok (.bipush 9, 2) := by decide +kernel
theorem dX12_isBroken_25 : decode cX12_isBroken 25 = .ok (.iload 4, 2) := by decide +kernel
theorem dX12_isBroken_27 : decode cX12_isBroken 27 = .ok (.imul, 1) := by decide +kernel
theorem dX12_isBroken_28 : decode cX12_isBroken 28 = .ok (.bipush 8, 2) := by decide +kernel
theorem dX12_isBroken_30 : decode cX12_isBroken 30 = .ok (.iadd, 1) := by decide +kernel
theorem dX12_isBroken_31 : decode cX12_isBroken 31 = .ok (.iaload, 1) := by decide +kernel
theorem dX12_isBroken_32 : decode cX12_isBroken 32 = .ok (.if_icmp .ge 133, 3) := by decide +kernel
theorem dX12_isBroken_35 : decode cX12_isBroken 35 = .ok (.bipush 6, 2) := by decide +kernel
theorem dX12_isBroken_37 : decode cX12_isBroken 37 = .ok (.iconst 5, 1) := by decide +kernel
theorem dX12_isBroken_38 : decode cX12_isBroken 38 = .ok (.iload 4, 2) := by decide +kernel
theorem dX12_isBroken_40 : decode cX12_isBroken 40 = .ok (.imul, 1) := by decide +kernel
theorem dX12_isBroken_41 : decode cX12_isBroken 41 = .ok (.iload 5, 2) := by decide +kernel
theorem dX12_isBroken_43 : decode cX12_isBroken 43 = .ok (.iadd, 1) := by decide +kernel
theorem dX12_isBroken_44 : decode cX12_isBroken 44 = .ok (.imul, 1) := by decide +kernel
theorem dX12_isBroken_45 : decode cX12_isBroken 45 = .ok (.istore 6, 2) := by decide +kernel
theorem dX12_isBroken_47 : decode cX12_isBroken 47 = .ok (.aload_n 0, 1) := by decide +kernel
theorem dX12_isBroken_48 : decode cX12_isBroken 48 = .ok (.aload_n 0, 1) := by decide +kernel
theorem dX12_isBroken_49 : decode cX12_isBroken 49 = .ok (.getfield 16, 3) := by decide +kernel
theorem dX12_isBroken_52 : decode cX12_isBroken 52 = .ok (.iload 6, 2) := by decide +kernel
theorem dX12_isBroken_54 : decode cX12_isBroken 54 = .ok (.iaload, 1) := by decide +kernel
theorem dX12_isBroken_55 : decode cX12_isBroken 55 = .ok (.invokevirtual 140, 3) := by decide +kernel
theorem dX12_isBroken_58 : decode cX12_isBroken 58 = .ok (.istore 7, 2) := by decide +kernel
theorem dX12_isBroken_60 : decode cX12_isBroken 60 = .ok (.iload 7, 2) := by decide +kernel
theorem dX12_isBroken_62 : decode cX12_isBroken 62 = .ok (.iload_n 2, 1) := by decide +kernel
theorem dX12_isBroken_63 : decode cX12_isBroken 63 = .ok (.iload_n 3, 1) := by decide +kernel
theorem dX12_isBroken_64 : decode cX12_isBroken 64 = .ok (.invokestatic 75, 3) := by decide +kernel
theorem dX12_isBroken_67 : decode cX12_isBroken 67 = .ok (.ifCond .eq 92, 3) := by decide +kernel
theorem dX12_isBroken_70 : decode cX12_isBroken 70 = .ok (.aload_n 0, 1) := by decide +kernel
theorem dX12_isBroken_71 : decode cX12_isBroken 71 = .ok (.getfield 16, 3) := by decide +kernel
theorem dX12_isBroken_74 : decode cX12_isBroken 74 = .ok (.iload 6, 2) := by decide +kernel
theorem dX12_isBroken_76 : decode cX12_isBroken 76 = .ok (.iconst 3, 1) := by decide +kernel
theorem dX12_isBroken_77 : decode cX12_isBroken 77 = .ok (.iadd, 1) := by decide +kernel
theorem dX12_isBroken_78 : decode cX12_isBroken 78 = .ok (.iaload, 1) := by decide +kernel
theorem dX12_isBroken_79 : decode cX12_isBroken 79 = .ok (.iconst (-1), 1) := by decide +kernel
theorem dX12_isBroken_80 : decode cX12_isBroken 80 = .ok (.if_icmp .ne 79, 3) := by decide +kernel
theorem dX12_isBroken_83 : decode cX12_isBroken 83 = .ok (.aload_n 0, 1) := by decide +kernel
theorem dX12_isBroken_84 : decode cX12_isBroken 84 = .ok (.getfield 16, 3) := by decide +kernel
theorem dX12_isBroken_87 : decode cX12_isBroken 87 = .ok (.iload 6, 2) := by decide +kernel
theorem dX12_isBroken_89 : decode cX12_isBroken 89 = .ok (.iconst 4, 1) := by decide +kernel
theorem dX12_isBroken_90 : decode cX12_isBroken 90 = .ok (.iadd, 1) := by decide +kernel
theorem dX12_isBroken_91 : decode cX12_isBroken 91 = .ok (.iaload, 1) := by decide +kernel
theorem dX12_isBroken_92 : decode cX12_isBroken 92 = .ok (.aload_n 0, 1) := by decide +kernel
theorem dX12_isBroken_93 : decode cX12_isBroken 93 = .ok (.getfield 131, 3) := by decide +kernel
theorem dX12_isBroken_96 : decode cX12_isBroken 96 = .ok (.ishr, 1) := by decide +kernel
theorem dX12_isBroken_97 : decode cX12_isBroken 97 = .ok (.iconst 1, 1) := by decide +kernel
theorem dX12_isBroken_98 : decode cX12_isBroken 98 = .ok (.iand, 1) := by decide +kernel
theorem dX12_isBroken_99 : decode cX12_isBroken 99 = .ok (.iconst 1, 1) := by decide +kernel
theorem dX12_isBroken_100 : decode cX12_isBroken 100 = .ok (.if_icmp .ne 59, 3) := by decide +kernel
theorem dX12_isBroken_103 : decode cX12_isBroken 103 = .ok (.aload_n 0, 1) := by decide +kernel
theorem dX12_isBroken_104 : decode cX12_isBroken 104 = .ok (.getfield 44, 3) := by decide +kernel
theorem dX12_isBroken_107 : decode cX12_isBroken 107 = .ok (.iload 7, 2) := by decide +kernel
theorem dX12_isBroken_109 : decode cX12_isBroken 109 = .ok (.iaload, 1) := by decide +kernel
theorem dX12_isBroken_110 : decode cX12_isBroken 110 = .ok (.istore 8, 2) := by decide +kernel
theorem dX12_isBroken_112 : decode cX12_isBroken 112 = .ok (.iload 8, 2) := by decide +kernel
theorem dX12_isBroken_114 : decode cX12_isBroken 114 = .ok (.iconst (-1), 1) := by decide +kernel
theorem dX12_isBroken_115 : decode cX12_isBroken 115 = .ok (.if_icmp .ne 19, 3) := by decide +kernel
theorem dX12_isBroken_118 : decode cX12_isBroken 118 = .ok (.aload_n 0, 1) := by decide +kernel
theorem dX12_isBroken_119 : decode cX12_isBroken 119 = .ok (.getfield 16, 3) := by decide +kernel
theorem dX12_isBroken_122 : decode cX12_isBroken 122 = .ok (.iload 6, 2) := by decide +kernel
theorem dX12_isBroken_124 : decode cX12_isBroken 124 = .ok (.iconst 2, 1) := by decide +kernel
theorem dX12_isBroken_125 : decode cX12_isBroken 125 = .ok (.iadd, 1) := by decide +kernel
theorem dX12_isBroken_126 : decode cX12_isBroken 126 = .ok (.iaload, 1) := by decide +kernel
theorem dX12_isBroken_127 : decode cX12_isBroken 127 = .ok (.iconst 1, 1) := by decide +kernel
theorem dX12_isBroken_128 : decode cX12_isBroken 128 = .ok (.if_icmp .eq 31, 3) := by decide +kernel
theorem dX12_isBroken_131 : decode cX12_isBroken 131 = .ok (.goto 26, 3) := by decide +kernel
theorem dX12_isBroken_134 : decode cX12_isBroken 134 = .ok (.aload_n 0, 1) := by decide +kernel
theorem dX12_isBroken_135 : decode cX12_isBroken 135 = .ok (.getfield 22, 3) := by decide +kernel
theorem dX12_isBroken_138 : decode cX12_isBroken 138 = .ok (.bipush 24, 2) := by decide +kernel
theorem dX12_isBroken_140 : decode cX12_isBroken 140 = .ok (.aload_n 0, 1) := by decide +kernel
theorem dX12_isBroken_141 : decode cX12_isBroken 141 = .ok (.getfield 16, 3) := by decide +kernel
theorem dX12_isBroken_144 : decode cX12_isBroken 144 = .ok (.iload 6, 2) := by decide +kernel
theorem dX12_isBroken_146 : decode cX12_isBroken 146 = .ok (.iconst 1, 1) := by decide +kernel
theorem dX12_isBroken_147 : decode cX12_isBroken 147 = .ok (.iadd, 1) := by decide +kernel
theorem dX12_isBroken_148 : decode cX12_isBroken 148 = .ok (.iaload, 1) := by decide +kernel
theorem dX12_isBroken_149 : decode cX12_isBroken 149 = .ok (.imul, 1) := by decide +kernel
theorem dX12_isBroken_150 : decode cX12_isBroken 150 = .ok (.iload 8, 2) := by decide +kernel
theorem dX12_isBroken_152 : decode cX12_isBroken 152 = .ok (.iadd, 1) := by decide +kernel
theorem dX12_isBroken_153 : decode cX12_isBroken 153 = .ok (.baload, 1) := by decide +kernel
theorem dX12_isBroken_154 : decode cX12_isBroken 154 = .ok (.ifCond .ne 5, 3) := by decide +kernel
theorem dX12_isBroken_157 : decode cX12_isBroken 157 = .ok (.iconst 1, 1) := by decide +kernel
theorem dX12_isBroken_158 : decode cX12_isBroken 158 = .ok (.ireturn, 1) := by decide +kernel
theorem dX12_isBroken_159 : decode cX12_isBroken 159 = .ok (.iinc 5 1, 3) := by decide +kernel
theorem dX12_isBroken_162 : decode cX12_isBroken 162 = .ok (.goto (-151), 3) := by decide +kernel
theorem dX12_isBroken_165 : decode cX12_isBroken 165 = .ok (.iconst 0, 1) := by decide +kernel
theorem dX12_isBroken_166 : decode cX12_isBroken 166 = .ok (.ireturn, 1) := by decide +kernel
theorem dX12_fitsSoFar_0 : decode cX12_fitsSoFar 0 = .ok (.aload_n 0, 1) := by decide +kernel
theorem dX12_fitsSoFar_1 : decode cX12_fitsSoFar 1 = .ok (.iload_n 1, 1) := by decide +kernel
theorem dX12_fitsSoFar_2 : decode cX12_fitsSoFar 2 = .ok (.iconst 0, 1) := by decide +kernel
theorem dX12_fitsSoFar_3 : decode cX12_fitsSoFar 3 = .ok (.iload_n 1, 1) := by decide +kernel
theorem dX12_fitsSoFar_4 : decode cX12_fitsSoFar 4 = .ok (.invokevirtual 150, 3) := by decide +kernel
theorem dX12_fitsSoFar_7 : decode cX12_fitsSoFar 7 = .ok (.ifCond .ne 7, 3) := by decide +kernel
theorem dX12_fitsSoFar_10 : decode cX12_fitsSoFar 10 = .ok (.iconst 1, 1) := by decide +kernel
theorem dX12_fitsSoFar_11 : decode cX12_fitsSoFar 11 = .ok (.goto 4, 3) := by decide +kernel
theorem dX12_fitsSoFar_14 : decode cX12_fitsSoFar 14 = .ok (.iconst 0, 1) := by decide +kernel
theorem dX12_fitsSoFar_15 : decode cX12_fitsSoFar 15 = .ok (.istore_n 2, 1) := by decide +kernel
theorem dX12_fitsSoFar_16 : decode cX12_fitsSoFar 16 = .ok (.iconst 0, 1) := by decide +kernel
theorem dX12_fitsSoFar_17 : decode cX12_fitsSoFar 17 = .ok (.istore_n 3, 1) := by decide +kernel
theorem dX12_fitsSoFar_18 : decode cX12_fitsSoFar 18 = .ok (.iload_n 3, 1) := by decide +kernel
theorem dX12_fitsSoFar_19 : decode cX12_fitsSoFar 19 = .ok (.iload_n 1, 1) := by decide +kernel
theorem dX12_fitsSoFar_20 : decode cX12_fitsSoFar 20 = .ok (.if_icmp .ge 29, 3) := by decide +kernel
theorem dX12_fitsSoFar_23 : decode cX12_fitsSoFar 23 = .ok (.iload_n 2, 1) := by decide +kernel
theorem dX12_fitsSoFar_24 : decode cX12_fitsSoFar 24 = .ok (.ifCond .eq 25, 3) := by decide +kernel
theorem dX12_fitsSoFar_27 : decode cX12_fitsSoFar 27 = .ok (.aload_n 0, 1) := by decide +kernel
theorem dX12_fitsSoFar_28 : decode cX12_fitsSoFar 28 = .ok (.iload_n 3, 1) := by decide +kernel
theorem dX12_fitsSoFar_29 : decode cX12_fitsSoFar 29 = .ok (.iload_n 1, 1) := by decide +kernel
theorem dX12_fitsSoFar_30 : decode cX12_fitsSoFar 30 = .ok (.iload_n 1, 1) := by decide +kernel
theorem dX12_fitsSoFar_31 : decode cX12_fitsSoFar 31 = .ok (.invokevirtual 150, 3) := by decide +kernel
theorem dX12_fitsSoFar_34 : decode cX12_fitsSoFar 34 = .ok (.ifCond .ne 7, 3) := by decide +kernel
theorem dX12_fitsSoFar_37 : decode cX12_fitsSoFar 37 = .ok (.iconst 1, 1) := by decide +kernel
theorem dX12_fitsSoFar_38 : decode cX12_fitsSoFar 38 = .ok (.goto 4, 3) := by decide +kernel
theorem dX12_fitsSoFar_41 : decode cX12_fitsSoFar 41 = .ok (.iconst 0, 1) := by decide +kernel
theorem dX12_fitsSoFar_42 : decode cX12_fitsSoFar 42 = .ok (.istore_n 2, 1) := by decide +kernel
theorem dX12_fitsSoFar_43 : decode cX12_fitsSoFar 43 = .ok (.iinc 3 1, 3) := by decide +kernel
theorem dX12_fitsSoFar_46 : decode cX12_fitsSoFar 46 = .ok (.goto (-28), 3) := by decide +kernel
theorem dX12_fitsSoFar_49 : decode cX12_fitsSoFar 49 = .ok (.iload_n 2, 1) := by decide +kernel
theorem dX12_fitsSoFar_50 : decode cX12_fitsSoFar 50 = .ok (.ireturn, 1) := by decide +kernel
theorem dX12_goOn_0 : decode cX12_goOn 0 = .ok (.iload_n 1, 1) := by decide +kernel
theorem dX12_goOn_1 : decode cX12_goOn 1 = .ok (.ifCond .eq 7, 3) := by decide +kernel
theorem dX12_goOn_4 : decode cX12_goOn 4 = .ok (.iconst 0, 1) := by decide +kernel
theorem dX12_goOn_5 : decode cX12_goOn 5 = .ok (.goto 4, 3) := by decide +kernel
theorem dX12_goOn_8 : decode cX12_goOn 8 = .ok (.iconst 5, 1) := by decide +kernel
theorem dX12_goOn_9 : decode cX12_goOn 9 = .ok (.istore_n 2, 1) := by decide +kernel
theorem dX12_goOn_10 : decode cX12_goOn 10 = .ok (.iload_n 1, 1) := by decide +kernel
theorem dX12_goOn_11 : decode cX12_goOn 11 = .ok (.ifCond .eq 10, 3) := by decide +kernel
theorem dX12_goOn_14 : decode cX12_goOn 14 = .ok (.aload_n 0, 1) := by decide +kernel
theorem dX12_goOn_15 : decode cX12_goOn 15 = .ok (.getfield 59, 3) := by decide +kernel
theorem dX12_goOn_18 : decode cX12_goOn 18 = .ok (.iconst 0, 1) := by decide +kernel
theorem dX12_goOn_19 : decode cX12_goOn 19 = .ok (.iconst (-1), 1) := by decide +kernel
theorem dX12_goOn_20 : decode cX12_goOn 20 = .ok (.iastore, 1) := by decide +kernel
theorem dX12_goOn_21 : decode cX12_goOn 21 = .ok (.iload_n 2, 1) := by decide +kernel
theorem dX12_goOn_22 : decode cX12_goOn 22 = .ok (.ifCond .lt 83, 3) := by decide +kernel
theorem dX12_goOn_25 : decode cX12_goOn 25 = .ok (.aload_n 0, 1) := by decide +kernel
theorem dX12_goOn_26 : decode cX12_goOn 26 = .ok (.getfield 59, 3) := by decide +kernel
theorem dX12_goOn_29 : decode cX12_goOn 29 = .ok (.iload_n 2, 1) := by decide +kernel
theorem dX12_goOn_30 : decode cX12_goOn 30 = .ok (.dup2, 1) := by decide +kernel
theorem dX12_goOn_31 : decode cX12_goOn 31 = .ok (.iaload, 1) := by decide +kernel
theorem dX12_goOn_32 : decode cX12_goOn 32 = .ok (.iconst 1, 1) := by decide +kernel
theorem dX12_goOn_33 : decode cX12_goOn 33 = .ok (.iadd, 1) := by decide +kernel
theorem dX12_goOn_34 : decode cX12_goOn 34 = .ok (.iastore, 1) := by decide +kernel
theorem dX12_goOn_35 : decode cX12_goOn 35 = .ok (.aload_n 0, 1) := by decide +kernel
theorem dX12_goOn_36 : decode cX12_goOn 36 = .ok (.getfield 59, 3) := by decide +kernel
theorem dX12_goOn_39 : decode cX12_goOn 39 = .ok (.iload_n 2, 1) := by decide +kernel
theorem dX12_goOn_40 : decode cX12_goOn 40 = .ok (.iaload, 1) := by decide +kernel
theorem dX12_goOn_41 : decode cX12_goOn 41 = .ok (.aload_n 0, 1) := by decide +kernel
theorem dX12_goOn_42 : decode cX12_goOn 42 = .ok (.getfield 56, 3) := by decide +kernel
theorem dX12_goOn_45 : decode cX12_goOn 45 = .ok (.iload_n 2, 1) := by decide +kernel
theorem dX12_goOn_46 : decode cX12_goOn 46 = .ok (.iaload, 1) := by decide +kernel
theorem dX12_goOn_47 : decode cX12_goOn 47 = .ok (.if_icmp .lt 9, 3) := by decide +kernel
theorem dX12_goOn_50 : decode cX12_goOn 50 = .ok (.iinc 2 (-1), 3) := by decide +kernel
theorem dX12_goOn_53 : decode cX12_goOn 53 = .ok (.goto (-32), 3) := by decide +kernel
theorem dX12_goOn_56 : decode cX12_goOn 56 = .ok (.aload_n 0, 1) := by decide +kernel
theorem dX12_goOn_57 : decode cX12_goOn 57 = .ok (.getfield 44, 3) := by decide +kernel
theorem dX12_goOn_60 : decode cX12_goOn 60 = .ok (.iload_n 2, 1) := by decide +kernel
theorem dX12_goOn_61 : decode cX12_goOn 61 = .ok (.aload_n 0, 1) := by decide +kernel
theorem dX12_goOn_62 : decode cX12_goOn 62 = .ok (.getfield 53, 3) := by decide +kernel
theorem dX12_goOn_65 : decode cX12_goOn 65 = .ok (.iconst 5, 1) := by decide +kernel
theorem dX12_goOn_66 : decode cX12_goOn 66 = .ok (.iload_n 2, 1) := by decide +kernel
theorem dX12_goOn_67 : decode cX12_goOn 67 = .ok (.imul, 1) := by decide +kernel
theorem dX12_goOn_68 : decode cX12_goOn 68 = .ok (.aload_n 0, 1) := by decide +kernel
theorem dX12_goOn_69 : decode cX12_goOn 69 = .ok (.getfield 59, 3) := by decide +kernel
theorem dX12_goOn_72 : decode cX12_goOn 72 = .ok (.iload_n 2, 1) := by decide +kernel
theorem dX12_goOn_73 : decode cX12_goOn 73 = .ok (.iaload, 1) := by decide +kernel
theorem dX12_goOn_74 : decode cX12_goOn 74 = .ok (.iadd, 1) := by decide +kernel
theorem dX12_goOn_75 : decode cX12_goOn 75 = .ok (.iaload, 1) := by decide +kernel
theorem dX12_goOn_76 : decode cX12_goOn 76 = .ok (.iastore, 1) := by decide +kernel
theorem dX12_goOn_77 : decode cX12_goOn 77 = .ok (.aload_n 0, 1) := by decide +kernel
theorem dX12_goOn_78 : decode cX12_goOn 78 = .ok (.iload_n 2, 1) := by decide +kernel
theorem dX12_goOn_79 : decode cX12_goOn 79 = .ok (.invokevirtual 153, 3) := by decide +kernel
theorem dX12_goOn_82 : decode cX12_goOn 82 = .ok (.ifCond .eq (-61), 3) := by decide +kernel
theorem dX12_goOn_85 : decode cX12_goOn 85 = .ok (.iload_n 2, 1) := by decide +kernel
theorem dX12_goOn_86 : decode cX12_goOn 86 = .ok (.iconst 5, 1) := by decide +kernel
theorem dX12_goOn_87 : decode cX12_goOn 87 = .ok (.if_icmp .ne 5, 3) := by decide +kernel
theorem dX12_goOn_90 : decode cX12_goOn 90 = .ok (.iconst 1, 1) := by decide +kernel
theorem dX12_goOn_91 : decode cX12_goOn 91 = .ok (.ireturn, 1) := by decide +kernel
theorem dX12_goOn_92 : decode cX12_goOn 92 = .ok (.iinc 2 1, 3) := by decide +kernel
theorem dX12_goOn_95 : decode cX12_goOn 95 = .ok (.aload_n 0, 1) := by decide +kernel
theorem dX12_goOn_96 : decode cX12_goOn 96 = .ok (.getfield 59, 3) := by decide +kernel
theorem dX12_goOn_99 : decode cX12_goOn 99 = .ok (.iload_n 2, 1) := by decide +kernel
theorem dX12_goOn_100 : decode cX12_goOn 100 = .ok (.iconst (-1), 1) := by decide +kernel
theorem dX12_goOn_101 : decode cX12_goOn 101 = .ok (.iastore, 1) := by decide +kernel
theorem dX12_goOn_102 : decode cX12_goOn 102 = .ok (.goto (-81), 3) := by decide +kernel
theorem dX12_goOn_105 : decode cX12_goOn 105 = .ok (.iconst 0, 1) := by decide +kernel
theorem dX12_goOn_106 : decode cX12_goOn 106 = .ok (.ireturn, 1) := by decide +kernel
theorem dX12_areDemandsRight_0 : decode cX12_areDemandsRight 0 = .ok (.iconst 0, 1) := by decide +kernel
theorem dX12_areDemandsRight_1 : decode cX12_areDemandsRight 1 = .ok (.istore_n 1, 1) := by decide +kernel
theorem dX12_areDemandsRight_2 : decode cX12_areDemandsRight 2 = .ok (.iload_n 1, 1) := by decide +kernel
theorem dX12_areDemandsRight_3 : decode cX12_areDemandsRight 3 = .ok (.bipush 6, 2) := by decide +kernel
theorem dX12_areDemandsRight_5 : decode cX12_areDemandsRight 5 = .ok (.if_icmp .ge 23, 3) := by decide +kernel
theorem dX12_areDemandsRight_8 : decode cX12_areDemandsRight 8 = .ok (.aload_n 0, 1) := by decide +kernel
theorem dX12_areDemandsRight_9 : decode cX12_areDemandsRight 9 = .ok (.getfield 47, 3) := by decide +kernel
theorem dX12_areDemandsRight_12 : decode cX12_areDemandsRight 12 = .ok (.iload_n 1, 1) := by decide +kernel
theorem dX12_areDemandsRight_13 : decode cX12_areDemandsRight 13 = .ok (.iconst 0, 1) := by decide +kernel
theorem dX12_areDemandsRight_14 : decode cX12_areDemandsRight 14 = .ok (.iastore, 1) := by decide +kernel
theorem dX12_areDemandsRight_15 : decode cX12_areDemandsRight 15 = .ok (.aload_n 0, 1) := by decide +kernel
theorem dX12_areDemandsRight_16 : decode cX12_areDemandsRight 16 = .ok (.getfield 50, 3) := by decide +kernel
theorem dX12_areDemandsRight_19 : decode cX12_areDemandsRight 19 = .ok (.iload_n 1, 1) := by decide +kernel
theorem dX12_areDemandsRight_20 : decode cX12_areDemandsRight 20 = .ok (.iconst 0, 1) := by decide +kernel
theorem dX12_areDemandsRight_21 : decode cX12_areDemandsRight 21 = .ok (.bastore, 1) := by decide +kernel
theorem dX12_areDemandsRight_22 : decode cX12_areDemandsRight 22 = .ok (.iinc 1 1, 3) := by decide +kernel
theorem dX12_areDemandsRight_25 : decode cX12_areDemandsRight 25 = .ok (.goto (-23), 3) := by decide +kernel
theorem dX12_areDemandsRight_28 : decode cX12_areDemandsRight 28 = .ok (.iconst 0, 1) := by decide +kernel
theorem dX12_areDemandsRight_29 : decode cX12_areDemandsRight 29 = .ok (.istore_n 1, 1) := by decide +kernel
theorem dX12_areDemandsRight_30 : decode cX12_areDemandsRight 30 = .ok (.iload_n 1, 1) := by decide +kernel
theorem dX12_areDemandsRight_31 : decode cX12_areDemandsRight 31 = .ok (.aload_n 0, 1) := by decide +kernel
theorem dX12_areDemandsRight_32 : decode cX12_areDemandsRight 32 = .ok (.getfield 125, 3) := by decide +kernel
theorem dX12_areDemandsRight_35 : decode cX12_areDemandsRight 35 = .ok (.if_icmp .ge 102, 3) := by decide +kernel
theorem dX12_areDemandsRight_38 : decode cX12_areDemandsRight 38 = .ok (.aload_n 0, 1) := by decide +kernel
theorem dX12_areDemandsRight_39 : decode cX12_areDemandsRight 39 = .ok (.getfield 137, 3) := by decide +kernel
theorem dX12_areDemandsRight_42 : decode cX12_areDemandsRight 42 = .ok (.iload_n 1, 1) := by decide +kernel
theorem dX12_areDemandsRight_43 : decode cX12_areDemandsRight 43 = .ok (.ishr, 1) := by decide +kernel
theorem dX12_areDemandsRight_44 : decode cX12_areDemandsRight 44 = .ok (.iconst 1, 1) := by decide +kernel
theorem dX12_areDemandsRight_45 : decode cX12_areDemandsRight 45 = .ok (.iand, 1) := by decide +kernel
theorem dX12_areDemandsRight_46 : decode cX12_areDemandsRight 46 = .ok (.iconst 1, 1) := by decide +kernel
theorem dX12_areDemandsRight_47 : decode cX12_areDemandsRight 47 = .ok (.if_icmp .ne 84, 3) := by decide +kernel
theorem dX12_areDemandsRight_50 : decode cX12_areDemandsRight 50 = .ok (.aload_n 0, 1) := by decide +kernel
theorem dX12_areDemandsRight_51 : decode cX12_areDemandsRight 51 = .ok (.aload_n 0, 1) := by decide +kernel
theorem dX12_areDemandsRight_52 : decode cX12_areDemandsRight 52 = .ok (.getfield 26, 3) := by decide +kernel
theorem dX12_areDemandsRight_55 : decode cX12_areDemandsRight 55 = .ok (.iconst 4, 1) := by decide +kernel
theorem dX12_areDemandsRight_56 : decode cX12_areDemandsRight 56 = .ok (.iload_n 1, 1) := by decide +kernel
theorem dX12_areDemandsRight_57 : decode cX12_areDemandsRight 57 = .ok (.imul, 1) := by decide +kernel
theorem dX12_areDemandsRight_58 : decode cX12_areDemandsRight 58 = .ok (.iconst 1, 1) := by decide +kernel
theorem dX12_areDemandsRight_59 : decode cX12_areDemandsRight 59 = .ok (.iadd, 1) := by decide +kernel
theorem dX12_areDemandsRight_60 : decode cX12_areDemandsRight 60 = .ok (.iaload, 1) := by decide +kernel
theorem dX12_areDemandsRight_61 : decode cX12_areDemandsRight 61 = .ok (.invokevirtual 140, 3) := by decide +kernel
theorem dX12_areDemandsRight_64 : decode cX12_areDemandsRight 64 = .ok (.istore_n 2, 1) := by decide +kernel
theorem dX12_areDemandsRight_65 : decode cX12_areDemandsRight 65 = .ok (.aload_n 0, 1) := by decide +kernel
theorem dX12_areDemandsRight_66 : decode cX12_areDemandsRight 66 = .ok (.getfield 44, 3) := by decide +kernel
theorem dX12_areDemandsRight_69 : decode cX12_areDemandsRight 69 = .ok (.iload_n 2, 1) := by decide +kernel
theorem dX12_areDemandsRight_70 : decode cX12_areDemandsRight 70 = .ok (.iaload, 1) := by decide +kernel
theorem dX12_areDemandsRight_71 : decode cX12_areDemandsRight 71 = .ok (.iconst (-1), 1) := by decide +kernel
theorem dX12_areDemandsRight_72 : decode cX12_areDemandsRight 72 = .ok (.if_icmp .eq 31, 3) := by decide +kernel
theorem dX12_areDemandsRight_75 : decode cX12_areDemandsRight 75 = .ok (.aload_n 0, 1) := by decide +kernel
theorem dX12_areDemandsRight_76 : decode cX12_areDemandsRight 76 = .ok (.getfield 22, 3) := by decide +kernel
theorem dX12_areDemandsRight_79 : decode cX12_areDemandsRight 79 = .ok (.bipush 24, 2) := by decide +kernel
theorem dX12_areDemandsRight_81 : decode cX12_areDemandsRight 81 = .ok (.aload_n 0, 1) := by decide +kernel
theorem dX12_areDemandsRight_82 : decode cX12_areDemandsRight 82 = .ok (.getfield 26, 3) := by decide +kernel
theorem dX12_areDemandsRight_85 : decode cX12_areDemandsRight 85 = .ok (.iconst 4, 1) := by decide +kernel
theorem dX12_areDemandsRight_86 : decode cX12_areDemandsRight 86 = .ok (.iload_n 1, 1) := by decide +kernel
theorem dX12_areDemandsRight_87 : decode cX12_areDemandsRight 87 = .ok (.imul, 1) := by decide +kernel
theorem dX12_areDemandsRight_88 : decode cX12_areDemandsRight 88 = .ok (.iconst 2, 1) := by decide +kernel
theorem dX12_areDemandsRight_89 : decode cX12_areDemandsRight 89 = .ok (.iadd, 1) := by decide +kernel
theorem dX12_areDemandsRight_90 : decode cX12_areDemandsRight 90 = .ok (.iaload, 1) := by decide +kernel
theorem dX12_areDemandsRight_91 : decode cX12_areDemandsRight 91 = .ok (.imul, 1) := by decide +kernel
theorem dX12_areDemandsRight_92 : decode cX12_areDemandsRight 92 = .ok (.aload_n 0, 1) := by decide +kernel
theorem dX12_areDemandsRight_93 : decode cX12_areDemandsRight 93 = .ok (.getfield 44, 3) := by decide +kernel
theorem dX12_areDemandsRight_96 : decode cX12_areDemandsRight 96 = .ok (.iload_n 2, 1) := by decide +kernel
theorem dX12_areDemandsRight_97 : decode cX12_areDemandsRight 97 = .ok (.iaload, 1) := by decide +kernel
theorem dX12_areDemandsRight_98 : decode cX12_areDemandsRight 98 = .ok (.iadd, 1) := by decide +kernel
theorem dX12_areDemandsRight_99 : decode cX12_areDemandsRight 99 = .ok (.baload, 1) := by decide +kernel
theorem dX12_areDemandsRight_100 : decode cX12_areDemandsRight 100 = .ok (.ifCond .ne 5, 3) := by decide +kernel
theorem dX12_areDemandsRight_103 : decode cX12_areDemandsRight 103 = .ok (.iconst 0, 1) := by decide +kernel
theorem dX12_areDemandsRight_104 : decode cX12_areDemandsRight 104 = .ok (.ireturn, 1) := by decide +kernel
theorem dX12_areDemandsRight_105 : decode cX12_areDemandsRight 105 = .ok (.aload_n 0, 1) := by decide +kernel
theorem dX12_areDemandsRight_106 : decode cX12_areDemandsRight 106 = .ok (.getfield 47, 3) := by decide +kernel
theorem dX12_areDemandsRight_109 : decode cX12_areDemandsRight 109 = .ok (.iload_n 2, 1) := by decide +kernel
theorem dX12_areDemandsRight_110 : decode cX12_areDemandsRight 110 = .ok (.dup2, 1) := by decide +kernel
theorem dX12_areDemandsRight_111 : decode cX12_areDemandsRight 111 = .ok (.iaload, 1) := by decide +kernel
theorem dX12_areDemandsRight_112 : decode cX12_areDemandsRight 112 = .ok (.aload_n 0, 1) := by decide +kernel
theorem dX12_areDemandsRight_113 : decode cX12_areDemandsRight 113 = .ok (.getfield 26, 3) := by decide +kernel
theorem dX12_areDemandsRight_116 : decode cX12_areDemandsRight 116 = .ok (.iconst 4, 1) := by decide +kernel
theorem dX12_areDemandsRight_117 : decode cX12_areDemandsRight 117 = .ok (.iload_n 1, 1) := by decide +kernel
theorem dX12_areDemandsRight_118 : decode cX12_areDemandsRight 118 = .ok (.imul, 1) := by decide +kernel
theorem dX12_areDemandsRight_119 : decode cX12_areDemandsRight 119 = .ok (.iconst 3, 1) := by decide +kernel
theorem dX12_areDemandsRight_120 : decode cX12_areDemandsRight 120 = .ok (.iadd, 1) := by decide +kernel
theorem dX12_areDemandsRight_121 : decode cX12_areDemandsRight 121 = .ok (.iaload, 1) := by decide +kernel
theorem dX12_areDemandsRight_122 : decode cX12_areDemandsRight 122 = .ok (.ior, 1) := by decide +kernel
theorem dX12_areDemandsRight_123 : decode cX12_areDemandsRight 123 = .ok (.iastore, 1) := by decide +kernel
theorem dX12_areDemandsRight_124 : decode cX12_areDemandsRight 124 = .ok (.aload_n 0, 1) := by decide +kernel
theorem dX12_areDemandsRight_125 : decode cX12_areDemandsRight 125 = .ok (.getfield 50, 3) := by decide +kernel
theorem dX12_areDemandsRight_128 : decode cX12_areDemandsRight 128 = .ok (.iload_n 2, 1) := by decide +kernel
theorem dX12_areDemandsRight_129 : decode cX12_areDemandsRight 129 = .ok (.iconst 1, 1) := by decide +kernel
theorem dX12_areDemandsRight_130 : decode cX12_areDemandsRight 130 = .ok (.bastore, 1) := by decide +kernel
theorem dX12_areDemandsRight_131 : decode cX12_areDemandsRight 131 = .ok (.iinc 1 1, 3) := by decide +kernel
theorem dX12_areDemandsRight_134 : decode cX12_areDemandsRight 134 = .ok (.goto (-104), 3) := by decide +kernel
theorem dX12_areDemandsRight_137 : decode cX12_areDemandsRight 137 = .ok (.iconst 1, 1) := by decide +kernel
theorem dX12_areDemandsRight_138 : decode cX12_areDemandsRight 138 = .ok (.ireturn, 1) := by decide +kernel
theorem dX12_counts_0 : decode cX12_counts 0 = .ok (.aload_n 0, 1) := by decide +kernel
theorem dX12_counts_1 : decode cX12_counts 1 = .ok (.getfield 16, 3) := by decide +kernel
theorem dX12_counts_4 : decode cX12_counts 4 = .ok (.iload_n 1, 1) := by decide +kernel
theorem dX12_counts_5 : decode cX12_counts 5 = .ok (.iconst 4, 1) := by decide +kernel
theorem dX12_counts_6 : decode cX12_counts 6 = .ok (.iadd, 1) := by decide +kernel
theorem dX12_counts_7 : decode cX12_counts 7 = .ok (.iaload, 1) := by decide +kernel
theorem dX12_counts_8 : decode cX12_counts 8 = .ok (.aload_n 0, 1) := by decide +kernel
theorem dX12_counts_9 : decode cX12_counts 9 = .ok (.getfield 131, 3) := by decide +kernel
theorem dX12_counts_12 : decode cX12_counts 12 = .ok (.ishr, 1) := by decide +kernel
theorem dX12_counts_13 : decode cX12_counts 13 = .ok (.iconst 1, 1) := by decide +kernel
theorem dX12_counts_14 : decode cX12_counts 14 = .ok (.iand, 1) := by decide +kernel
theorem dX12_counts_15 : decode cX12_counts 15 = .ok (.iconst 1, 1) := by decide +kernel
theorem dX12_counts_16 : decode cX12_counts 16 = .ok (.if_icmp .ne 40, 3) := by decide +kernel
theorem dX12_counts_19 : decode cX12_counts 19 = .ok (.aload_n 0, 1) := by decide +kernel
theorem dX12_counts_20 : decode cX12_counts 20 = .ok (.getfield 16, 3) := by decide +kernel
theorem dX12_counts_23 : decode cX12_counts 23 = .ok (.iload_n 1, 1) := by decide +kernel
theorem dX12_counts_24 : decode cX12_counts 24 = .ok (.iconst 3, 1) := by decide +kernel
theorem dX12_counts_25 : decode cX12_counts 25 = .ok (.iadd, 1) := by decide +kernel
theorem dX12_counts_26 : decode cX12_counts 26 = .ok (.iaload, 1) := by decide +kernel
theorem dX12_counts_27 : decode cX12_counts 27 = .ok (.iconst (-1), 1) := by decide +kernel
theorem dX12_counts_28 : decode cX12_counts 28 = .ok (.if_icmp .eq 24, 3) := by decide +kernel
theorem dX12_counts_31 : decode cX12_counts 31 = .ok (.aload_n 0, 1) := by decide +kernel
theorem dX12_counts_32 : decode cX12_counts 32 = .ok (.getfield 47, 3) := by decide +kernel
theorem dX12_counts_35 : decode cX12_counts 35 = .ok (.iload_n 2, 1) := by decide +kernel
theorem dX12_counts_36 : decode cX12_counts 36 = .ok (.iaload, 1) := by decide +kernel
theorem dX12_counts_37 : decode cX12_counts 37 = .ok (.aload_n 0, 1) := by decide +kernel
theorem dX12_counts_38 : decode cX12_counts 38 = .ok (.getfield 16, 3) := by decide +kernel
theorem dX12_counts_41 : decode cX12_counts 41 = .ok (.iload_n 1, 1) := by decide +kernel
theorem dX12_counts_42 : decode cX12_counts 42 = .ok (.iconst 3, 1) := by decide +kernel
theorem dX12_counts_43 : decode cX12_counts 43 = .ok (.iadd, 1) := by decide +kernel
theorem dX12_counts_44 : decode cX12_counts 44 = .ok (.iaload, 1) := by decide +kernel
theorem dX12_counts_45 : decode cX12_counts 45 = .ok (.ishr, 1) := by decide +kernel
theorem dX12_counts_46 : decode cX12_counts 46 = .ok (.iconst 1, 1) := by decide +kernel
theorem dX12_counts_47 : decode cX12_counts 47 = .ok (.iand, 1) := by decide +kernel
theorem dX12_counts_48 : decode cX12_counts 48 = .ok (.iconst 1, 1) := by decide +kernel
theorem dX12_counts_49 : decode cX12_counts 49 = .ok (.if_icmp .ne 7, 3) := by decide +kernel
theorem dX12_counts_52 : decode cX12_counts 52 = .ok (.iconst 1, 1) := by decide +kernel
theorem dX12_counts_53 : decode cX12_counts 53 = .ok (.goto 4, 3) := by decide +kernel
theorem dX12_counts_56 : decode cX12_counts 56 = .ok (.iconst 0, 1) := by decide +kernel
theorem dX12_counts_57 : decode cX12_counts 57 = .ok (.ireturn, 1) := by decide +kernel
theorem dX12_spread_0 : decode cX12_spread 0 = .ok (.aload_n 0, 1) := by decide +kernel
theorem dX12_spread_1 : decode cX12_spread 1 = .ok (.getfield 44, 3) := by decide +kernel
theorem dX12_spread_4 : decode cX12_spread 4 = .ok (.iload_n 1, 1) := by decide +kernel
theorem dX12_spread_5 : decode cX12_spread 5 = .ok (.iaload, 1) := by decide +kernel
theorem dX12_spread_6 : decode cX12_spread 6 = .ok (.istore_n 2, 1) := by decide +kernel
theorem dX12_spread_7 : decode cX12_spread 7 = .ok (.iconst 0, 1) := by decide +kernel
theorem dX12_spread_8 : decode cX12_spread 8 = .ok (.istore_n 3, 1) := by decide +kernel
theorem dX12_spread_9 : decode cX12_spread 9 = .ok (.iconst 0, 1) := by decide +kernel
theorem dX12_spread_10 : decode cX12_spread 10 = .ok (.istore 4, 2) := by decide +kernel
theorem dX12_spread_12 : decode cX12_spread 12 = .ok (.iload 4, 2) := by decide +kernel
theorem dX12_spread_14 : decode cX12_spread 14 = .ok (.iconst 3, 1) := by decide +kernel
theorem dX12_spread_15 : decode cX12_spread 15 = .ok (.if_icmp .ge 80, 3) := by decide +kernel
theorem dX12_spread_18 : decode cX12_spread 18 = .ok (.aload_n 0, 1) := by decide +kernel
theorem dX12_spread_19 : decode cX12_spread 19 = .ok (.getfield 47, 3) := by decide +kernel
theorem dX12_spread_22 : decode cX12_spread 22 = .ok (.iload_n 1, 1) := by decide +kernel
theorem dX12_spread_23 : decode cX12_spread 23 = .ok (.iaload, 1) := by decide +kernel
theorem dX12_spread_24 : decode cX12_spread 24 = .ok (.iload 4, 2) := by decide +kernel
theorem dX12_spread_26 : decode cX12_spread 26 = .ok (.ishr, 1) := by decide +kernel
theorem dX12_spread_27 : decode cX12_spread 27 = .ok (.iconst 1, 1) := by decide +kernel
theorem dX12_spread_28 : decode cX12_spread 28 = .ok (.iand, 1) := by decide +kernel
theorem dX12_spread_29 : decode cX12_spread 29 = .ok (.iconst 1, 1) := by decide +kernel
theorem dX12_spread_30 : decode cX12_spread 30 = .ok (.if_icmp .ne 17, 3) := by decide +kernel
theorem dX12_spread_33 : decode cX12_spread 33 = .ok (.aload_n 0, 1) := by decide +kernel
theorem dX12_spread_34 : decode cX12_spread 34 = .ok (.getfield 13, 3) := by decide +kernel
theorem dX12_spread_37 : decode cX12_spread 37 = .ok (.iconst 3, 1) := by decide +kernel
theorem dX12_spread_38 : decode cX12_spread 38 = .ok (.iload_n 2, 1) := by decide +kernel
theorem dX12_spread_39 : decode cX12_spread 39 = .ok (.imul, 1) := by decide +kernel
theorem dX12_spread_40 : decode cX12_spread 40 = .ok (.iload 4, 2) := by decide +kernel
theorem dX12_spread_42 : decode cX12_spread 42 = .ok (.iadd, 1) := by decide +kernel
theorem dX12_spread_43 : decode cX12_spread 43 = .ok (.iaload, 1) := by decide +kernel
theorem dX12_spread_44 : decode cX12_spread 44 = .ok (.goto 4, 3) := by decide +kernel
theorem dX12_spread_47 : decode cX12_spread 47 = .ok (.iconst 0, 1) := by decide +kernel
theorem dX12_spread_48 : decode cX12_spread 48 = .ok (.istore 5, 2) := by decide +kernel
theorem dX12_spread_50 : decode cX12_spread 50 = .ok (.iload_n 3, 1) := by decide +kernel
theorem dX12_spread_51 : decode cX12_spread 51 = .ok (.ifCond .ne 21, 3) := by decide +kernel
theorem dX12_spread_54 : decode cX12_spread 54 = .ok (.aload_n 0, 1) := by decide +kernel
theorem dX12_spread_55 : decode cX12_spread 55 = .ok (.getfield 47, 3) := by decide +kernel
theorem dX12_spread_58 : decode cX12_spread 58 = .ok (.iload_n 1, 1) := by decide +kernel
theorem dX12_spread_59 : decode cX12_spread 59 = .ok (.iaload, 1) := by decide +kernel
theorem dX12_spread_60 : decode cX12_spread 60 = .ok (.iload 5, 2) := by decide +kernel
theorem dX12_spread_62 : decode cX12_spread 62 = .ok (.ior, 1) := by decide +kernel
theorem dX12_spread_63 : decode cX12_spread 63 = .ok (.aload_n 0, 1) := by decide +kernel
theorem dX12_spread_64 : decode cX12_spread 64 = .ok (.getfield 47, 3) := by decide +kernel
theorem dX12_spread_67 : decode cX12_spread 67 = .ok (.iload_n 1, 1) := by decide +kernel
theorem dX12_spread_68 : decode cX12_spread 68 = .ok (.iaload, 1) := by decide +kernel
theorem dX12_spread_69 : decode cX12_spread 69 = .ok (.if_icmp .eq 7, 3) := by decide +kernel
theorem dX12_spread_72 : decode cX12_spread 72 = .ok (.iconst 1, 1) := by decide +kernel
theorem dX12_spread_73 : decode cX12_spread 73 = .ok (.goto 4, 3) := by decide +kernel
theorem dX12_spread_76 : decode cX12_spread 76 = .ok (.iconst 0, 1) := by decide +kernel
theorem dX12_spread_77 : decode cX12_spread 77 = .ok (.istore_n 3, 1) := by decide +kernel
theorem dX12_spread_78 : decode cX12_spread 78 = .ok (.aload_n 0, 1) := by decide +kernel
theorem dX12_spread_79 : decode cX12_spread 79 = .ok (.getfield 47, 3) := by decide +kernel
theorem dX12_spread_82 : decode cX12_spread 82 = .ok (.iload_n 1, 1) := by decide +kernel
theorem dX12_spread_83 : decode cX12_spread 83 = .ok (.dup2, 1) := by decide +kernel
theorem dX12_spread_84 : decode cX12_spread 84 = .ok (.iaload, 1) := by decide +kernel
theorem dX12_spread_85 : decode cX12_spread 85 = .ok (.iload 5, 2) := by decide +kernel
theorem dX12_spread_87 : decode cX12_spread 87 = .ok (.ior, 1) := by decide +kernel
theorem dX12_spread_88 : decode cX12_spread 88 = .ok (.iastore, 1) := by decide +kernel
theorem dX12_spread_89 : decode cX12_spread 89 = .ok (.iinc 4 1, 3) := by decide +kernel
theorem dX12_spread_92 : decode cX12_spread 92 = .ok (.goto (-80), 3) := by decide +kernel
theorem dX12_spread_95 : decode cX12_spread 95 = .ok (.iconst 0, 1) := by decide +kernel
theorem dX12_spread_96 : decode cX12_spread 96 = .ok (.istore 4, 2) := by decide +kernel
theorem dX12_spread_98 : decode cX12_spread 98 = .ok (.iload 4, 2) := by decide +kernel
theorem dX12_spread_100 : decode cX12_spread 100 = .ok (.aload_n 0, 1) := by decide +kernel
theorem dX12_spread_101 : decode cX12_spread 101 = .ok (.getfield 7, 3) := by decide +kernel
theorem dX12_spread_104 : decode cX12_spread 104 = .ok (.bipush 9, 2) := by decide +kernel
theorem dX12_spread_106 : decode cX12_spread 106 = .ok (.iload_n 2, 1) := by decide +kernel
theorem dX12_spread_107 : decode cX12_spread 107 = .ok (.imul, 1) := by decide +kernel
theorem dX12_spread_108 : decode cX12_spread 108 = .ok (.bipush 8, 2) := by decide +kernel
theorem dX12_spread_110 : decode cX12_spread 110 = .ok (.iadd, 1) := by decide +kernel
theorem dX12_spread_111 : decode cX12_spread 111 = .ok (.iaload, 1) := by decide +kernel
theorem dX12_spread_112 : decode cX12_spread 112 = .ok (.if_icmp .ge 110, 3) := by decide +kernel
theorem dX12_spread_115 : decode cX12_spread 115 = .ok (.bipush 6, 2) := by decide +kernel
theorem dX12_spread_117 : decode cX12_spread 117 = .ok (.iconst 5, 1) := by decide +kernel
theorem dX12_spread_118 : decode cX12_spread 118 = .ok (.iload_n 2, 1) := by decide +kernel
theorem dX12_spread_119 : decode cX12_spread 119 = .ok (.imul, 1) := by decide +kernel
theorem dX12_spread_120 : decode cX12_spread 120 = .ok (.iload 4, 2) := by decide +kernel
theorem dX12_spread_122 : decode cX12_spread 122 = .ok (.iadd, 1) := by decide +kernel
theorem dX12_spread_123 : decode cX12_spread 123 = .ok (.imul, 1) := by decide +kernel
theorem dX12_spread_124 : decode cX12_spread 124 = .ok (.istore 5, 2) := by decide +kernel
theorem dX12_spread_126 : decode cX12_spread 126 = .ok (.aload_n 0, 1) := by decide +kernel
theorem dX12_spread_127 : decode cX12_spread 127 = .ok (.aload_n 0, 1) := by decide +kernel
theorem dX12_spread_128 : decode cX12_spread 128 = .ok (.getfield 16, 3) := by decide +kernel
theorem dX12_spread_131 : decode cX12_spread 131 = .ok (.iload 5, 2) := by decide +kernel
theorem dX12_spread_133 : decode cX12_spread 133 = .ok (.iaload, 1) := by decide +kernel
theorem dX12_spread_134 : decode cX12_spread 134 = .ok (.invokevirtual 140, 3) := by decide +kernel
theorem dX12_spread_137 : decode cX12_spread 137 = .ok (.istore 6, 2) := by decide +kernel
theorem dX12_spread_139 : decode cX12_spread 139 = .ok (.aload_n 0, 1) := by decide +kernel
theorem dX12_spread_140 : decode cX12_spread 140 = .ok (.iload 5, 2) := by decide +kernel
theorem dX12_spread_142 : decode cX12_spread 142 = .ok (.iload_n 1, 1) := by decide +kernel
theorem dX12_spread_143 : decode cX12_spread 143 = .ok (.invokevirtual 156, 3) := by decide +kernel
theorem dX12_spread_146 : decode cX12_spread 146 = .ok (.ifCond .eq 70, 3) := by decide +kernel
theorem dX12_spread_149 : decode cX12_spread 149 = .ok (.aload_n 0, 1) := by decide +kernel
theorem dX12_spread_150 : decode cX12_spread 150 = .ok (.getfield 44, 3) := by decide +kernel
theorem dX12_spread_153 : decode cX12_spread 153 = .ok (.iload 6, 2) := by decide +kernel
theorem dX12_spread_155 : decode cX12_spread 155 = .ok (.iaload, 1) := by decide +kernel
theorem dX12_spread_156 : decode cX12_spread 156 = .ok (.iconst (-1), 1) := by decide +kernel
theorem dX12_spread_157 : decode cX12_spread 157 = .ok (.if_icmp .eq 59, 3) := by decide +kernel
theorem dX12_spread_160 : decode cX12_spread 160 = .ok (.iload_n 3, 1) := by decide +kernel
theorem dX12_spread_161 : decode cX12_spread 161 = .ok (.ifCond .ne 30, 3) := by decide +kernel
theorem dX12_spread_164 : decode cX12_spread 164 = .ok (.aload_n 0, 1) := by decide +kernel
theorem dX12_spread_165 : decode cX12_spread 165 = .ok (.getfield 47, 3) := by decide +kernel
theorem dX12_spread_168 : decode cX12_spread 168 = .ok (.iload 6, 2) := by decide +kernel
theorem dX12_spread_170 : decode cX12_spread 170 = .ok (.iaload, 1) := by decide +kernel
theorem dX12_spread_171 : decode cX12_spread 171 = .ok (.aload_n 0, 1) := by decide +kernel
theorem dX12_spread_172 : decode cX12_spread 172 = .ok (.getfield 16, 3) := by decide +kernel
theorem dX12_spread_175 : decode cX12_spread 175 = .ok (.iload 5, 2) := by decide +kernel
theorem dX12_spread_177 : decode cX12_spread 177 = .ok (.iconst 5, 1) := by decide +kernel
theorem dX12_spread_178 : decode cX12_spread 178 = .ok (.iadd, 1) := by decide +kernel
theorem dX12_spread_179 : decode cX12_spread 179 = .ok (.iaload, 1) := by decide +kernel
theorem dX12_spread_180 : decode cX12_spread 180 = .ok (.ior, 1) := by decide +kernel
theorem dX12_spread_181 : decode cX12_spread 181 = .ok (.aload_n 0, 1) := by decide +kernel
theorem dX12_spread_182 : decode cX12_spread 182 = .ok (.getfield 47, 3) := by decide +kernel
theorem dX12_spread_185 : decode cX12_spread 185 = .ok (.iload 6, 2) := by decide +kernel
theorem dX12_spread_187 : decode cX12_spread 187 = .ok (.iaload, 1) := by decide +kernel
theorem dX12_spread_188 : decode cX12_spread 188 = .ok (.if_icmp .eq 7, 3) := by decide +kernel
theorem dX12_spread_191 : decode cX12_spread 191 = .ok (.iconst 1, 1) := by decide +kernel
theorem dX12_spread_192 : decode cX12_spread 192 = .ok (.goto 4, 3) := by decide +kernel
theorem dX12_spread_195 : decode cX12_spread 195 = .ok (.iconst 0, 1) := by decide +kernel
theorem dX12_spread_196 : decode cX12_spread 196 = .ok (.istore_n 3, 1) := by decide +kernel
theorem dX12_spread_197 : decode cX12_spread 197 = .ok (.aload_n 0, 1) := by decide +kernel
theorem dX12_spread_198 : decode cX12_spread 198 = .ok (.getfield 47, 3) := by decide +kernel
theorem dX12_spread_201 : decode cX12_spread 201 = .ok (.iload 6, 2) := by decide +kernel
theorem dX12_spread_203 : decode cX12_spread 203 = .ok (.dup2, 1) := by decide +kernel
theorem dX12_spread_204 : decode cX12_spread 204 = .ok (.iaload, 1) := by decide +kernel
theorem dX12_spread_205 : decode cX12_spread 205 = .ok (.aload_n 0, 1) := by decide +kernel
theorem dX12_spread_206 : decode cX12_spread 206 = .ok (.getfield 16, 3) := by decide +kernel
theorem dX12_spread_209 : decode cX12_spread 209 = .ok (.iload 5, 2) := by decide +kernel
theorem dX12_spread_211 : decode cX12_spread 211 = .ok (.iconst 5, 1) := by decide +kernel
theorem dX12_spread_212 : decode cX12_spread 212 = .ok (.iadd, 1) := by decide +kernel
theorem dX12_spread_213 : decode cX12_spread 213 = .ok (.iaload, 1) := by decide +kernel
theorem dX12_spread_214 : decode cX12_spread 214 = .ok (.ior, 1) := by decide +kernel
theorem dX12_spread_215 : decode cX12_spread 215 = .ok (.iastore, 1) := by decide +kernel
theorem dX12_spread_216 : decode cX12_spread 216 = .ok (.iinc 4 1, 3) := by decide +kernel
theorem dX12_spread_219 : decode cX12_spread 219 = .ok (.goto (-121), 3) := by decide +kernel
theorem dX12_spread_222 : decode cX12_spread 222 = .ok (.iload_n 3, 1) := by decide +kernel
theorem dX12_spread_223 : decode cX12_spread 223 = .ok (.ireturn, 1) := by decide +kernel
theorem dX12_areNeedsRight_0 : decode cX12_areNeedsRight 0 = .ok (.aload_n 0, 1) := by decide +kernel
theorem dX12_areNeedsRight_1 : decode cX12_areNeedsRight 1 = .ok (.getfield 44, 3) := by decide +kernel
theorem dX12_areNeedsRight_4 : decode cX12_areNeedsRight 4 = .ok (.iload_n 1, 1) := by decide +kernel
theorem dX12_areNeedsRight_5 : decode cX12_areNeedsRight 5 = .ok (.iaload, 1) := by decide +kernel
theorem dX12_areNeedsRight_6 : decode cX12_areNeedsRight 6 = .ok (.istore_n 2, 1) := by decide +kernel
theorem dX12_areNeedsRight_7 : decode cX12_areNeedsRight 7 = .ok (.iconst 0, 1) := by decide +kernel
theorem dX12_areNeedsRight_8 : decode cX12_areNeedsRight 8 = .ok (.istore_n 3, 1) := by decide +kernel
theorem dX12_areNeedsRight_9 : decode cX12_areNeedsRight 9 = .ok (.iload_n 3, 1) := by decide +kernel
theorem dX12_areNeedsRight_10 : decode cX12_areNeedsRight 10 = .ok (.aload_n 0, 1) := by decide +kernel
theorem dX12_areNeedsRight_11 : decode cX12_areNeedsRight 11 = .ok (.getfield 7, 3) := by decide +kernel
theorem dX12_areNeedsRight_14 : decode cX12_areNeedsRight 14 = .ok (.bipush 9, 2) := by decide +kernel
theorem dX12_areNeedsRight_16 : decode cX12_areNeedsRight 16 = .ok (.iload_n 2, 1) := by decide +kernel
theorem dX12_areNeedsRight_17 : decode cX12_areNeedsRight 17 = .ok (.imul, 1) := by decide +kernel
theorem dX12_areNeedsRight_18 : decode cX12_areNeedsRight 18 = .ok (.bipush 8, 2) := by decide +kernel
theorem dX12_areNeedsRight_20 : decode cX12_areNeedsRight 20 = .ok (.iadd, 1) := by decide +kernel
theorem dX12_areNeedsRight_21 : decode cX12_areNeedsRight 21 = .ok (.iaload, 1) := by decide +kernel
theorem dX12_areNeedsRight_22 : decode cX12_areNeedsRight 22 = .ok (.if_icmp .ge 94, 3) := by decide +kernel
theorem dX12_areNeedsRight_25 : decode cX12_areNeedsRight 25 = .ok (.bipush 6, 2) := by decide +kernel
theorem dX12_areNeedsRight_27 : decode cX12_areNeedsRight 27 = .ok (.iconst 5, 1) := by decide +kernel
theorem dX12_areNeedsRight_28 : decode cX12_areNeedsRight 28 = .ok (.iload_n 2, 1) := by decide +kernel
theorem dX12_areNeedsRight_29 : decode cX12_areNeedsRight 29 = .ok (.imul, 1) := by decide +kernel
theorem dX12_areNeedsRight_30 : decode cX12_areNeedsRight 30 = .ok (.iload_n 3, 1) := by decide +kernel
theorem dX12_areNeedsRight_31 : decode cX12_areNeedsRight 31 = .ok (.iadd, 1) := by decide +kernel
theorem dX12_areNeedsRight_32 : decode cX12_areNeedsRight 32 = .ok (.imul, 1) := by decide +kernel
theorem dX12_areNeedsRight_33 : decode cX12_areNeedsRight 33 = .ok (.istore 4, 2) := by decide +kernel
theorem dX12_areNeedsRight_35 : decode cX12_areNeedsRight 35 = .ok (.aload_n 0, 1) := by decide +kernel
theorem dX12_areNeedsRight_36 : decode cX12_areNeedsRight 36 = .ok (.getfield 44, 3) := by decide +kernel
theorem dX12_areNeedsRight_39 : decode cX12_areNeedsRight 39 = .ok (.aload_n 0, 1) := by decide +kernel
theorem dX12_areNeedsRight_40 : decode cX12_areNeedsRight 40 = .ok (.aload_n 0, 1) := by decide +kernel
theorem dX12_areNeedsRight_41 : decode cX12_areNeedsRight 41 = .ok (.getfield 16, 3) := by decide +kernel
theorem dX12_areNeedsRight_44 : decode cX12_areNeedsRight 44 = .ok (.iload 4, 2) := by decide +kernel
theorem dX12_areNeedsRight_46 : decode cX12_areNeedsRight 46 = .ok (.iaload, 1) := by decide +kernel
theorem dX12_areNeedsRight_47 : decode cX12_areNeedsRight 47 = .ok (.invokevirtual 140, 3) := by decide +kernel
theorem dX12_areNeedsRight_50 : decode cX12_areNeedsRight 50 = .ok (.iaload, 1) := by decide +kernel
theorem dX12_areNeedsRight_51 : decode cX12_areNeedsRight 51 = .ok (.istore 5, 2) := by decide +kernel
theorem dX12_areNeedsRight_53 : decode cX12_areNeedsRight 53 = .ok (.aload_n 0, 1) := by decide +kernel
theorem dX12_areNeedsRight_54 : decode cX12_areNeedsRight 54 = .ok (.iload 4, 2) := by decide +kernel
theorem dX12_areNeedsRight_56 : decode cX12_areNeedsRight 56 = .ok (.iload_n 1, 1) := by decide +kernel
theorem dX12_areNeedsRight_57 : decode cX12_areNeedsRight 57 = .ok (.invokevirtual 156, 3) := by decide +kernel
theorem dX12_areNeedsRight_60 : decode cX12_areNeedsRight 60 = .ok (.ifCond .eq 50, 3) := by decide +kernel
theorem dX12_areNeedsRight_63 : decode cX12_areNeedsRight 63 = .ok (.iload 5, 2) := by decide +kernel
theorem dX12_areNeedsRight_65 : decode cX12_areNeedsRight 65 = .ok (.iconst (-1), 1) := by decide +kernel
theorem dX12_areNeedsRight_66 : decode cX12_areNeedsRight 66 = .ok (.if_icmp .ne 19, 3) := by decide +kernel
theorem dX12_areNeedsRight_69 : decode cX12_areNeedsRight 69 = .ok (.aload_n 0, 1) := by decide +kernel
theorem dX12_areNeedsRight_70 : decode cX12_areNeedsRight 70 = .ok (.getfield 16, 3) := by decide +kernel
theorem dX12_areNeedsRight_73 : decode cX12_areNeedsRight 73 = .ok (.iload 4, 2) := by decide +kernel
theorem dX12_areNeedsRight_75 : decode cX12_areNeedsRight 75 = .ok (.iconst 2, 1) := by decide +kernel
theorem dX12_areNeedsRight_76 : decode cX12_areNeedsRight 76 = .ok (.iadd, 1) := by decide +kernel
theorem dX12_areNeedsRight_77 : decode cX12_areNeedsRight 77 = .ok (.iaload, 1) := by decide +kernel
theorem dX12_areNeedsRight_78 : decode cX12_areNeedsRight 78 = .ok (.iconst 1, 1) := by decide +kernel
theorem dX12_areNeedsRight_79 : decode cX12_areNeedsRight 79 = .ok (.if_icmp .eq 31, 3) := by decide +kernel
theorem dX12_areNeedsRight_82 : decode cX12_areNeedsRight 82 = .ok (.goto 26, 3) := by decide +kernel
theorem dX12_areNeedsRight_85 : decode cX12_areNeedsRight 85 = .ok (.aload_n 0, 1) := by decide +kernel
theorem dX12_areNeedsRight_86 : decode cX12_areNeedsRight 86 = .ok (.getfield 22, 3) := by decide +kernel
theorem dX12_areNeedsRight_89 : decode cX12_areNeedsRight 89 = .ok (.bipush 24, 2) := by decide +kernel
theorem dX12_areNeedsRight_91 : decode cX12_areNeedsRight 91 = .ok (.aload_n 0, 1) := by decide +kernel
theorem dX12_areNeedsRight_92 : decode cX12_areNeedsRight 92 = .ok (.getfield 16, 3) := by decide +kernel
theorem dX12_areNeedsRight_95 : decode cX12_areNeedsRight 95 = .ok (.iload 4, 2) := by decide +kernel
theorem dX12_areNeedsRight_97 : decode cX12_areNeedsRight 97 = .ok (.iconst 1, 1) := by decide +kernel
theorem dX12_areNeedsRight_98 : decode cX12_areNeedsRight 98 = .ok (.iadd, 1) := by decide +kernel
theorem dX12_areNeedsRight_99 : decode cX12_areNeedsRight 99 = .ok (.iaload, 1) := by decide +kernel
theorem dX12_areNeedsRight_100 : decode cX12_areNeedsRight 100 = .ok (.imul, 1) := by decide +kernel
theorem dX12_areNeedsRight_101 : decode cX12_areNeedsRight 101 = .ok (.iload 5, 2) := by decide +kernel
theorem dX12_areNeedsRight_103 : decode cX12_areNeedsRight 103 = .ok (.iadd, 1) := by decide +kernel
theorem dX12_areNeedsRight_104 : decode cX12_areNeedsRight 104 = .ok (.baload, 1) := by decide +kernel
theorem dX12_areNeedsRight_105 : decode cX12_areNeedsRight 105 = .ok (.ifCond .ne 5, 3) := by decide +kernel
theorem dX12_areNeedsRight_108 : decode cX12_areNeedsRight 108 = .ok (.iconst 0, 1) := by decide +kernel
theorem dX12_areNeedsRight_109 : decode cX12_areNeedsRight 109 = .ok (.ireturn, 1) := by decide +kernel
theorem dX12_areNeedsRight_110 : decode cX12_areNeedsRight 110 = .ok (.iinc 3 1, 3) := by decide +kernel
theorem dX12_areNeedsRight_113 : decode cX12_areNeedsRight 113 = .ok (.goto (-104), 3) := by decide +kernel
theorem dX12_areNeedsRight_116 : decode cX12_areNeedsRight 116 = .ok (.iconst 1, 1) := by decide +kernel
theorem dX12_areNeedsRight_117 : decode cX12_areNeedsRight 117 = .ok (.ireturn, 1) := by decide +kernel
theorem dX12_pull_0 : decode cX12_pull 0 = .ok (.iconst 0, 1) := by decide +kernel
theorem dX12_pull_1 : decode cX12_pull 1 = .ok (.istore_n 2, 1) := by decide +kernel
theorem dX12_pull_2 : decode cX12_pull 2 = .ok (.aload_n 0, 1) := by decide +kernel
theorem dX12_pull_3 : decode cX12_pull 3 = .ok (.getfield 44, 3) := by decide +kernel
theorem dX12_pull_6 : decode cX12_pull 6 = .ok (.iload_n 1, 1) := by decide +kernel
theorem dX12_pull_7 : decode cX12_pull 7 = .ok (.iaload, 1) := by decide +kernel
theorem dX12_pull_8 : decode cX12_pull 8 = .ok (.istore_n 3, 1) := by decide +kernel
theorem dX12_pull_9 : decode cX12_pull 9 = .ok (.iconst 0, 1) := by decide +kernel
theorem dX12_pull_10 : decode cX12_pull 10 = .ok (.istore 4, 2) := by decide +kernel
theorem dX12_pull_12 : decode cX12_pull 12 = .ok (.iload 4, 2) := by decide +kernel
theorem dX12_pull_14 : decode cX12_pull 14 = .ok (.aload_n 0, 1) := by decide +kernel
theorem dX12_pull_15 : decode cX12_pull 15 = .ok (.getfield 7, 3) := by decide +kernel
theorem dX12_pull_18 : decode cX12_pull 18 = .ok (.bipush 9, 2) := by decide +kernel
theorem dX12_pull_20 : decode cX12_pull 20 = .ok (.iload_n 3, 1) := by decide +kernel
theorem dX12_pull_21 : decode cX12_pull 21 = .ok (.imul, 1) := by decide +kernel
theorem dX12_pull_22 : decode cX12_pull 22 = .ok (.bipush 8, 2) := by decide +kernel
theorem dX12_pull_24 : decode cX12_pull 24 = .ok (.iadd, 1) := by decide +kernel
theorem dX12_pull_25 : decode cX12_pull 25 = .ok (.iaload, 1) := by decide +kernel
theorem dX12_pull_26 : decode cX12_pull 26 = .ok (.if_icmp .ge 87, 3) := by decide +kernel
theorem dX12_pull_29 : decode cX12_pull 29 = .ok (.bipush 6, 2) := by decide +kernel
theorem dX12_pull_31 : decode cX12_pull 31 = .ok (.iconst 5, 1) := by decide +kernel
theorem dX12_pull_32 : decode cX12_pull 32 = .ok (.iload_n 3, 1) := by decide +kernel
theorem dX12_pull_33 : decode cX12_pull 33 = .ok (.imul, 1) := by decide +kernel
theorem dX12_pull_34 : decode cX12_pull 34 = .ok (.iload 4, 2) := by decide +kernel
theorem dX12_pull_36 : decode cX12_pull 36 = .ok (.iadd, 1) := by decide +kernel
theorem dX12_pull_37 : decode cX12_pull 37 = .ok (.imul, 1) := by decide +kernel
theorem dX12_pull_38 : decode cX12_pull 38 = .ok (.istore 5, 2) := by decide +kernel
theorem dX12_pull_40 : decode cX12_pull 40 = .ok (.aload_n 0, 1) := by decide +kernel
theorem dX12_pull_41 : decode cX12_pull 41 = .ok (.aload_n 0, 1) := by decide +kernel
theorem dX12_pull_42 : decode cX12_pull 42 = .ok (.getfield 16, 3) := by decide +kernel
theorem dX12_pull_45 : decode cX12_pull 45 = .ok (.iload 5, 2) := by decide +kernel
theorem dX12_pull_47 : decode cX12_pull 47 = .ok (.iaload, 1) := by decide +kernel
theorem dX12_pull_48 : decode cX12_pull 48 = .ok (.invokevirtual 140, 3) := by decide +kernel
theorem dX12_pull_51 : decode cX12_pull 51 = .ok (.istore 6, 2) := by decide +kernel
theorem dX12_pull_53 : decode cX12_pull 53 = .ok (.aload_n 0, 1) := by decide +kernel
theorem dX12_pull_54 : decode cX12_pull 54 = .ok (.iload 5, 2) := by decide +kernel
theorem dX12_pull_56 : decode cX12_pull 56 = .ok (.iload_n 1, 1) := by decide +kernel
theorem dX12_pull_57 : decode cX12_pull 57 = .ok (.invokevirtual 156, 3) := by decide +kernel
theorem dX12_pull_60 : decode cX12_pull 60 = .ok (.ifCond .eq 47, 3) := by decide +kernel
theorem dX12_pull_63 : decode cX12_pull 63 = .ok (.aload_n 0, 1) := by decide +kernel
theorem dX12_pull_64 : decode cX12_pull 64 = .ok (.getfield 16, 3) := by decide +kernel
theorem dX12_pull_67 : decode cX12_pull 67 = .ok (.iload 5, 2) := by decide +kernel
theorem dX12_pull_69 : decode cX12_pull 69 = .ok (.iconst 2, 1) := by decide +kernel
theorem dX12_pull_70 : decode cX12_pull 70 = .ok (.iadd, 1) := by decide +kernel
theorem dX12_pull_71 : decode cX12_pull 71 = .ok (.iaload, 1) := by decide +kernel
theorem dX12_pull_72 : decode cX12_pull 72 = .ok (.iconst 2, 1) := by decide +kernel
theorem dX12_pull_73 : decode cX12_pull 73 = .ok (.if_icmp .eq 34, 3) := by decide +kernel
theorem dX12_pull_76 : decode cX12_pull 76 = .ok (.aload_n 0, 1) := by decide +kernel
theorem dX12_pull_77 : decode cX12_pull 77 = .ok (.getfield 44, 3) := by decide +kernel
theorem dX12_pull_80 : decode cX12_pull 80 = .ok (.iload 6, 2) := by decide +kernel
theorem dX12_pull_82 : decode cX12_pull 82 = .ok (.iaload, 1) := by decide +kernel
theorem dX12_pull_83 : decode cX12_pull 83 = .ok (.iconst (-1), 1) := by decide +kernel
theorem dX12_pull_84 : decode cX12_pull 84 = .ok (.if_icmp .eq 23, 3) := by decide +kernel
theorem dX12_pull_87 : decode cX12_pull 87 = .ok (.aload_n 0, 1) := by decide +kernel
theorem dX12_pull_88 : decode cX12_pull 88 = .ok (.getfield 50, 3) := by decide +kernel
theorem dX12_pull_91 : decode cX12_pull 91 = .ok (.iload 6, 2) := by decide +kernel
theorem dX12_pull_93 : decode cX12_pull 93 = .ok (.baload, 1) := by decide +kernel
theorem dX12_pull_94 : decode cX12_pull 94 = .ok (.ifCond .ne 13, 3) := by decide +kernel
theorem dX12_pull_97 : decode cX12_pull 97 = .ok (.aload_n 0, 1) := by decide +kernel
theorem dX12_pull_98 : decode cX12_pull 98 = .ok (.getfield 50, 3) := by decide +kernel
theorem dX12_pull_101 : decode cX12_pull 101 = .ok (.iload 6, 2) := by decide +kernel
theorem dX12_pull_103 : decode cX12_pull 103 = .ok (.iconst 1, 1) := by decide +kernel
theorem dX12_pull_104 : decode cX12_pull 104 = .ok (.bastore, 1) := by decide +kernel
theorem dX12_pull_105 : decode cX12_pull 105 = .ok (.iconst 1, 1) := by decide +kernel
theorem dX12_pull_106 : decode cX12_pull 106 = .ok (.istore_n 2, 1) := by decide +kernel
theorem dX12_pull_107 : decode cX12_pull 107 = .ok (.iinc 4 1, 3) := by decide +kernel
theorem dX12_pull_110 : decode cX12_pull 110 = .ok (.goto (-98), 3) := by decide +kernel
theorem dX12_pull_113 : decode cX12_pull 113 = .ok (.iload_n 2, 1) := by decide +kernel
theorem dX12_pull_114 : decode cX12_pull 114 = .ok (.ireturn, 1) := by decide +kernel
theorem dX12_isSolution_0 : decode cX12_isSolution 0 = .ok (.aload_n 0, 1) := by decide +kernel
theorem dX12_isSolution_1 : decode cX12_isSolution 1 = .ok (.invokevirtual 159, 3) := by decide +kernel
theorem dX12_isSolution_4 : decode cX12_isSolution 4 = .ok (.ifCond .ne 5, 3) := by decide +kernel
theorem dX12_isSolution_7 : decode cX12_isSolution 7 = .ok (.iconst 0, 1) := by decide +kernel
theorem dX12_isSolution_8 : decode cX12_isSolution 8 = .ok (.ireturn, 1) := by decide +kernel
theorem dX12_isSolution_9 : decode cX12_isSolution 9 = .ok (.iconst 1, 1) := by decide +kernel
theorem dX12_isSolution_10 : decode cX12_isSolution 10 = .ok (.istore_n 1, 1) := by decide +kernel
theorem dX12_isSolution_11 : decode cX12_isSolution 11 = .ok (.iload_n 1, 1) := by decide +kernel
theorem dX12_isSolution_12 : decode cX12_isSolution 12 = .ok (.ifCond .eq 50, 3) := by decide +kernel
theorem dX12_isSolution_15 : decode cX12_isSolution 15 = .ok (.iconst 0, 1) := by decide +kernel
theorem dX12_isSolution_16 : decode cX12_isSolution 16 = .ok (.istore_n 1, 1) := by decide +kernel
theorem dX12_isSolution_17 : decode cX12_isSolution 17 = .ok (.iconst 0, 1) := by decide +kernel
theorem dX12_isSolution_18 : decode cX12_isSolution 18 = .ok (.istore_n 2, 1) := by decide +kernel
theorem dX12_isSolution_19 : decode cX12_isSolution 19 = .ok (.iload_n 2, 1) := by decide +kernel
theorem dX12_isSolution_20 : decode cX12_isSolution 20 = .ok (.bipush 6, 2) := by decide +kernel
theorem dX12_isSolution_22 : decode cX12_isSolution 22 = .ok (.if_icmp .ge 37, 3) := by decide +kernel
theorem dX12_isSolution_25 : decode cX12_isSolution 25 = .ok (.aload_n 0, 1) := by decide +kernel
theorem dX12_isSolution_26 : decode cX12_isSolution 26 = .ok (.getfield 44, 3) := by decide +kernel
theorem dX12_isSolution_29 : decode cX12_isSolution 29 = .ok (.iload_n 2, 1) := by decide +kernel
theorem dX12_isSolution_30 : decode cX12_isSolution 30 = .ok (.iaload, 1) := by decide +kernel
theorem dX12_isSolution_31 : decode cX12_isSolution 31 = .ok (.iconst (-1), 1) := by decide +kernel
theorem dX12_isSolution_32 : decode cX12_isSolution 32 = .ok (.if_icmp .eq 11, 3) := by decide +kernel
theorem dX12_isSolution_35 : decode cX12_isSolution 35 = .ok (.aload_n 0, 1) := by decide +kernel
theorem dX12_isSolution_36 : decode cX12_isSolution 36 = .ok (.iload_n 2, 1) := by decide +kernel
theorem dX12_isSolution_37 : decode cX12_isSolution 37 = .ok (.invokevirtual 163, 3) := by decide +kernel
theorem dX12_isSolution_40 : decode cX12_isSolution 40 = .ok (.ifCond .ne 7, 3) := by decide +kernel
theorem dX12_isSolution_43 : decode cX12_isSolution 43 = .ok (.iload_n 1, 1) := by decide +kernel
theorem dX12_isSolution_44 : decode cX12_isSolution 44 = .ok (.ifCond .eq 7, 3) := by decide +kernel
theorem dX12_isSolution_47 : decode cX12_isSolution 47 = .ok (.iconst 1, 1) := by decide +kernel
theorem dX12_isSolution_48 : decode cX12_isSolution 48 = .ok (.goto 4, 3) := by decide +kernel
theorem dX12_isSolution_51 : decode cX12_isSolution 51 = .ok (.iconst 0, 1) := by decide +kernel
theorem dX12_isSolution_52 : decode cX12_isSolution 52 = .ok (.istore_n 1, 1) := by decide +kernel
theorem dX12_isSolution_53 : decode cX12_isSolution 53 = .ok (.iinc 2 1, 3) := by decide +kernel
theorem dX12_isSolution_56 : decode cX12_isSolution 56 = .ok (.goto (-37), 3) := by decide +kernel
theorem dX12_isSolution_59 : decode cX12_isSolution 59 = .ok (.goto (-48), 3) := by decide +kernel
theorem dX12_isSolution_62 : decode cX12_isSolution 62 = .ok (.iconst 0, 1) := by decide +kernel
theorem dX12_isSolution_63 : decode cX12_isSolution 63 = .ok (.istore_n 2, 1) := by decide +kernel
theorem dX12_isSolution_64 : decode cX12_isSolution 64 = .ok (.iload_n 2, 1) := by decide +kernel
theorem dX12_isSolution_65 : decode cX12_isSolution 65 = .ok (.bipush 6, 2) := by decide +kernel
theorem dX12_isSolution_67 : decode cX12_isSolution 67 = .ok (.if_icmp .ge 29, 3) := by decide +kernel
theorem dX12_isSolution_70 : decode cX12_isSolution 70 = .ok (.aload_n 0, 1) := by decide +kernel
theorem dX12_isSolution_71 : decode cX12_isSolution 71 = .ok (.getfield 44, 3) := by decide +kernel
theorem dX12_isSolution_74 : decode cX12_isSolution 74 = .ok (.iload_n 2, 1) := by decide +kernel
theorem dX12_isSolution_75 : decode cX12_isSolution 75 = .ok (.iaload, 1) := by decide +kernel
theorem dX12_isSolution_76 : decode cX12_isSolution 76 = .ok (.iconst (-1), 1) := by decide +kernel
theorem dX12_isSolution_77 : decode cX12_isSolution 77 = .ok (.if_icmp .eq 13, 3) := by decide +kernel
theorem dX12_isSolution_80 : decode cX12_isSolution 80 = .ok (.aload_n 0, 1) := by decide +kernel
theorem dX12_isSolution_81 : decode cX12_isSolution 81 = .ok (.iload_n 2, 1) := by decide +kernel
theorem dX12_isSolution_82 : decode cX12_isSolution 82 = .ok (.invokevirtual 166, 3) := by decide +kernel
theorem dX12_isSolution_85 : decode cX12_isSolution 85 = .ok (.ifCond .ne 5, 3) := by decide +kernel
theorem dX12_isSolution_88 : decode cX12_isSolution 88 = .ok (.iconst 0, 1) := by decide +kernel
theorem dX12_isSolution_89 : decode cX12_isSolution 89 = .ok (.ireturn, 1) := by decide +kernel
theorem dX12_isSolution_90 : decode cX12_isSolution 90 = .ok (.iinc 2 1, 3) := by decide +kernel
theorem dX12_isSolution_93 : decode cX12_isSolution 93 = .ok (.goto (-29), 3) := by decide +kernel
theorem dX12_isSolution_96 : decode cX12_isSolution 96 = .ok (.iconst 1, 1) := by decide +kernel
theorem dX12_isSolution_97 : decode cX12_isSolution 97 = .ok (.istore_n 1, 1) := by decide +kernel
theorem dX12_isSolution_98 : decode cX12_isSolution 98 = .ok (.iload_n 1, 1) := by decide +kernel
theorem dX12_isSolution_99 : decode cX12_isSolution 99 = .ok (.ifCond .eq 59, 3) := by decide +kernel
theorem dX12_isSolution_102 : decode cX12_isSolution 102 = .ok (.iconst 0, 1) := by decide +kernel
theorem dX12_isSolution_103 : decode cX12_isSolution 103 = .ok (.istore_n 1, 1) := by decide +kernel
theorem dX12_isSolution_104 : decode cX12_isSolution 104 = .ok (.iconst 0, 1) := by decide +kernel
theorem dX12_isSolution_105 : decode cX12_isSolution 105 = .ok (.istore_n 2, 1) := by decide +kernel
theorem dX12_isSolution_106 : decode cX12_isSolution 106 = .ok (.iload_n 2, 1) := by decide +kernel
theorem dX12_isSolution_107 : decode cX12_isSolution 107 = .ok (.bipush 6, 2) := by decide +kernel
theorem dX12_isSolution_109 : decode cX12_isSolution 109 = .ok (.if_icmp .ge 46, 3) := by decide +kernel
theorem dX12_isSolution_112 : decode cX12_isSolution 112 = .ok (.aload_n 0, 1) := by decide +kernel
theorem dX12_isSolution_113 : decode cX12_isSolution 113 = .ok (.getfield 44, 3) := by decide +kernel
theorem dX12_isSolution_116 : decode cX12_isSolution 116 = .ok (.iload_n 2, 1) := by decide +kernel
theorem dX12_isSolution_117 : decode cX12_isSolution 117 = .ok (.iaload, 1) := by decide +kernel
theorem dX12_isSolution_118 : decode cX12_isSolution 118 = .ok (.iconst (-1), 1) := by decide +kernel
theorem dX12_isSolution_119 : decode cX12_isSolution 119 = .ok (.if_icmp .eq 20, 3) := by decide +kernel
theorem dX12_isSolution_122 : decode cX12_isSolution 122 = .ok (.aload_n 0, 1) := by decide +kernel
theorem dX12_isSolution_123 : decode cX12_isSolution 123 = .ok (.getfield 50, 3) := by decide +kernel
theorem dX12_isSolution_126 : decode cX12_isSolution 126 = .ok (.iload_n 2, 1) := by decide +kernel
theorem dX12_isSolution_127 : decode cX12_isSolution 127 = .ok (.baload, 1) := by decide +kernel
theorem dX12_isSolution_128 : decode cX12_isSolution 128 = .ok (.ifCond .eq 11, 3) := by decide +kernel
theorem dX12_isSolution_131 : decode cX12_isSolution 131 = .ok (.aload_n 0, 1) := by decide +kernel
theorem dX12_isSolution_132 : decode cX12_isSolution 132 = .ok (.iload_n 2, 1) := by decide +kernel
theorem dX12_isSolution_133 : decode cX12_isSolution 133 = .ok (.invokevirtual 169, 3) := by decide +kernel
theorem dX12_isSolution_136 : decode cX12_isSolution 136 = .ok (.ifCond .ne 7, 3) := by decide +kernel
theorem dX12_isSolution_139 : decode cX12_isSolution 139 = .ok (.iload_n 1, 1) := by decide +kernel
theorem dX12_isSolution_140 : decode cX12_isSolution 140 = .ok (.ifCond .eq 7, 3) := by decide +kernel
theorem dX12_isSolution_143 : decode cX12_isSolution 143 = .ok (.iconst 1, 1) := by decide +kernel
theorem dX12_isSolution_144 : decode cX12_isSolution 144 = .ok (.goto 4, 3) := by decide +kernel
theorem dX12_isSolution_147 : decode cX12_isSolution 147 = .ok (.iconst 0, 1) := by decide +kernel
theorem dX12_isSolution_148 : decode cX12_isSolution 148 = .ok (.istore_n 1, 1) := by decide +kernel
theorem dX12_isSolution_149 : decode cX12_isSolution 149 = .ok (.iinc 2 1, 3) := by decide +kernel
theorem dX12_isSolution_152 : decode cX12_isSolution 152 = .ok (.goto (-46), 3) := by decide +kernel
theorem dX12_isSolution_155 : decode cX12_isSolution 155 = .ok (.goto (-57), 3) := by decide +kernel
theorem dX12_isSolution_158 : decode cX12_isSolution 158 = .ok (.iconst 0, 1) := by decide +kernel
theorem dX12_isSolution_159 : decode cX12_isSolution 159 = .ok (.istore_n 2, 1) := by decide +kernel
theorem dX12_isSolution_160 : decode cX12_isSolution 160 = .ok (.iload_n 2, 1) := by decide +kernel
theorem dX12_isSolution_161 : decode cX12_isSolution 161 = .ok (.bipush 6, 2) := by decide +kernel
theorem dX12_isSolution_163 : decode cX12_isSolution 163 = .ok (.if_icmp .ge 30, 3) := by decide +kernel
theorem dX12_isSolution_166 : decode cX12_isSolution 166 = .ok (.aload_n 0, 1) := by decide +kernel
theorem dX12_isSolution_167 : decode cX12_isSolution 167 = .ok (.getfield 44, 3) := by decide +kernel
theorem dX12_isSolution_170 : decode cX12_isSolution 170 = .ok (.iload_n 2, 1) := by decide +kernel
theorem dX12_isSolution_171 : decode cX12_isSolution 171 = .ok (.iaload, 1) := by decide +kernel
theorem dX12_isSolution_172 : decode cX12_isSolution 172 = .ok (.iconst (-1), 1) := by decide +kernel
theorem dX12_isSolution_173 : decode cX12_isSolution 173 = .ok (.if_icmp .eq 14, 3) := by decide +kernel
theorem dX12_isSolution_176 : decode cX12_isSolution 176 = .ok (.aload_n 0, 1) := by decide +kernel
theorem dX12_isSolution_177 : decode cX12_isSolution 177 = .ok (.getfield 50, 3) := by decide +kernel
theorem dX12_isSolution_180 : decode cX12_isSolution 180 = .ok (.iload_n 2, 1) := by decide +kernel
theorem dX12_isSolution_181 : decode cX12_isSolution 181 = .ok (.baload, 1) := by decide +kernel
theorem dX12_isSolution_182 : decode cX12_isSolution 182 = .ok (.ifCond .ne 5, 3) := by decide +kernel
theorem dX12_isSolution_185 : decode cX12_isSolution 185 = .ok (.iconst 0, 1) := by decide +kernel
theorem dX12_isSolution_186 : decode cX12_isSolution 186 = .ok (.ireturn, 1) := by decide +kernel
theorem dX12_isSolution_187 : decode cX12_isSolution 187 = .ok (.iinc 2 1, 3) := by decide +kernel
theorem dX12_isSolution_190 : decode cX12_isSolution 190 = .ok (.goto (-30), 3) := by decide +kernel
theorem dX12_isSolution_193 : decode cX12_isSolution 193 = .ok (.iconst 1, 1) := by decide +kernel
theorem dX12_isSolution_194 : decode cX12_isSolution 194 = .ok (.ireturn, 1) := by decide +kernel
theorem dX12_isKept_0 : decode cX12_isKept 0 = .ok (.aload_n 0, 1) := by decide +kernel
theorem dX12_isKept_1 : decode cX12_isKept 1 = .ok (.getfield 35, 3) := by decide +kernel
theorem dX12_isKept_4 : decode cX12_isKept 4 = .ok (.iload_n 1, 1) := by decide +kernel
theorem dX12_isKept_5 : decode cX12_isKept 5 = .ok (.iaload, 1) := by decide +kernel
theorem dX12_isKept_6 : decode cX12_isKept 6 = .ok (.iconst (-1), 1) := by decide +kernel
theorem dX12_isKept_7 : decode cX12_isKept 7 = .ok (.if_icmp .eq 18, 3) := by decide +kernel
theorem dX12_isKept_10 : decode cX12_isKept 10 = .ok (.aload_n 0, 1) := by decide +kernel
theorem dX12_isKept_11 : decode cX12_isKept 11 = .ok (.getfield 172, 3) := by decide +kernel
theorem dX12_isKept_14 : decode cX12_isKept 14 = .ok (.iload_n 1, 1) := by decide +kernel
theorem dX12_isKept_15 : decode cX12_isKept 15 = .ok (.ishr, 1) := by decide +kernel
theorem dX12_isKept_16 : decode cX12_isKept 16 = .ok (.iconst 1, 1) := by decide +kernel
theorem dX12_isKept_17 : decode cX12_isKept 17 = .ok (.iand, 1) := by decide +kernel
theorem dX12_isKept_18 : decode cX12_isKept 18 = .ok (.ifCond .ne 7, 3) := by decide +kernel
theorem dX12_isKept_21 : decode cX12_isKept 21 = .ok (.iconst 1, 1) := by decide +kernel
theorem dX12_isKept_22 : decode cX12_isKept 22 = .ok (.goto 4, 3) := by decide +kernel
theorem dX12_isKept_25 : decode cX12_isKept 25 = .ok (.iconst 0, 1) := by decide +kernel
theorem dX12_isKept_26 : decode cX12_isKept 26 = .ok (.ireturn, 1) := by decide +kernel
theorem dX12_changes_0 : decode cX12_changes 0 = .ok (.iconst 0, 1) := by decide +kernel
theorem dX12_changes_1 : decode cX12_changes 1 = .ok (.istore_n 1, 1) := by decide +kernel
theorem dX12_changes_2 : decode cX12_changes 2 = .ok (.iconst 0, 1) := by decide +kernel
theorem dX12_changes_3 : decode cX12_changes 3 = .ok (.istore_n 2, 1) := by decide +kernel
theorem dX12_changes_4 : decode cX12_changes 4 = .ok (.iload_n 2, 1) := by decide +kernel
theorem dX12_changes_5 : decode cX12_changes 5 = .ok (.bipush 6, 2) := by decide +kernel
theorem dX12_changes_7 : decode cX12_changes 7 = .ok (.if_icmp .ge 40, 3) := by decide +kernel
theorem dX12_changes_10 : decode cX12_changes 10 = .ok (.iload_n 1, 1) := by decide +kernel
theorem dX12_changes_11 : decode cX12_changes 11 = .ok (.aload_n 0, 1) := by decide +kernel
theorem dX12_changes_12 : decode cX12_changes 12 = .ok (.iload_n 2, 1) := by decide +kernel
theorem dX12_changes_13 : decode cX12_changes 13 = .ok (.invokevirtual 175, 3) := by decide +kernel
theorem dX12_changes_16 : decode cX12_changes 16 = .ok (.ifCond .eq 22, 3) := by decide +kernel
theorem dX12_changes_19 : decode cX12_changes 19 = .ok (.aload_n 0, 1) := by decide +kernel
theorem dX12_changes_20 : decode cX12_changes 20 = .ok (.getfield 44, 3) := by decide +kernel
theorem dX12_changes_23 : decode cX12_changes 23 = .ok (.iload_n 2, 1) := by decide +kernel
theorem dX12_changes_24 : decode cX12_changes 24 = .ok (.iaload, 1) := by decide +kernel
theorem dX12_changes_25 : decode cX12_changes 25 = .ok (.aload_n 0, 1) := by decide +kernel
theorem dX12_changes_26 : decode cX12_changes 26 = .ok (.getfield 35, 3) := by decide +kernel
theorem dX12_changes_29 : decode cX12_changes 29 = .ok (.iload_n 2, 1) := by decide +kernel
theorem dX12_changes_30 : decode cX12_changes 30 = .ok (.iaload, 1) := by decide +kernel
theorem dX12_changes_31 : decode cX12_changes 31 = .ok (.if_icmp .eq 7, 3) := by decide +kernel
theorem dX12_changes_34 : decode cX12_changes 34 = .ok (.iconst 1, 1) := by decide +kernel
theorem dX12_changes_35 : decode cX12_changes 35 = .ok (.goto 4, 3) := by decide +kernel
theorem dX12_changes_38 : decode cX12_changes 38 = .ok (.iconst 0, 1) := by decide +kernel
theorem dX12_changes_39 : decode cX12_changes 39 = .ok (.iadd, 1) := by decide +kernel
theorem dX12_changes_40 : decode cX12_changes 40 = .ok (.istore_n 1, 1) := by decide +kernel
theorem dX12_changes_41 : decode cX12_changes 41 = .ok (.iinc 2 1, 3) := by decide +kernel
theorem dX12_changes_44 : decode cX12_changes 44 = .ok (.goto (-40), 3) := by decide +kernel
theorem dX12_changes_47 : decode cX12_changes 47 = .ok (.iload_n 1, 1) := by decide +kernel
theorem dX12_changes_48 : decode cX12_changes 48 = .ok (.ireturn, 1) := by decide +kernel
theorem dX12_isWished_0 : decode cX12_isWished 0 = .ok (.aload_n 0, 1) := by decide +kernel
theorem dX12_isWished_1 : decode cX12_isWished 1 = .ok (.iload_n 1, 1) := by decide +kernel
theorem dX12_isWished_2 : decode cX12_isWished 2 = .ok (.invokevirtual 175, 3) := by decide +kernel
theorem dX12_isWished_5 : decode cX12_isWished 5 = .ok (.ifCond .eq 52, 3) := by decide +kernel
theorem dX12_isWished_8 : decode cX12_isWished 8 = .ok (.iload_n 2, 1) := by decide +kernel
theorem dX12_isWished_9 : decode cX12_isWished 9 = .ok (.aload_n 0, 1) := by decide +kernel
theorem dX12_isWished_10 : decode cX12_isWished 10 = .ok (.getfield 35, 3) := by decide +kernel
theorem dX12_isWished_13 : decode cX12_isWished 13 = .ok (.iload_n 1, 1) := by decide +kernel
theorem dX12_isWished_14 : decode cX12_isWished 14 = .ok (.iaload, 1) := by decide +kernel
theorem dX12_isWished_15 : decode cX12_isWished 15 = .ok (.if_icmp .ne 7, 3) := by decide +kernel
theorem dX12_isWished_18 : decode cX12_isWished 18 = .ok (.iconst 1, 1) := by decide +kernel
theorem dX12_isWished_19 : decode cX12_isWished 19 = .ok (.goto 4, 3) := by decide +kernel
theorem dX12_isWished_22 : decode cX12_isWished 22 = .ok (.iconst 0, 1) := by decide +kernel
theorem dX12_isWished_23 : decode cX12_isWished 23 = .ok (.iload_n 3, 1) := by decide +kernel
theorem dX12_isWished_24 : decode cX12_isWished 24 = .ok (.aload_n 0, 1) := by decide +kernel
theorem dX12_isWished_25 : decode cX12_isWished 25 = .ok (.getfield 35, 3) := by decide +kernel
theorem dX12_isWished_28 : decode cX12_isWished 28 = .ok (.iload_n 1, 1) := by decide +kernel
theorem dX12_isWished_29 : decode cX12_isWished 29 = .ok (.iaload, 1) := by decide +kernel
theorem dX12_isWished_30 : decode cX12_isWished 30 = .ok (.if_icmp .ne 7, 3) := by decide +kernel
theorem dX12_isWished_33 : decode cX12_isWished 33 = .ok (.iconst 1, 1) := by decide +kernel
theorem dX12_isWished_34 : decode cX12_isWished 34 = .ok (.goto 4, 3) := by decide +kernel
theorem dX12_isWished_37 : decode cX12_isWished 37 = .ok (.iconst 0, 1) := by decide +kernel
theorem dX12_isWished_38 : decode cX12_isWished 38 = .ok (.if_icmp .eq 19, 3) := by decide +kernel
theorem dX12_isWished_41 : decode cX12_isWished 41 = .ok (.iload_n 2, 1) := by decide +kernel
theorem dX12_isWished_42 : decode cX12_isWished 42 = .ok (.aload_n 0, 1) := by decide +kernel
theorem dX12_isWished_43 : decode cX12_isWished 43 = .ok (.getfield 35, 3) := by decide +kernel
theorem dX12_isWished_46 : decode cX12_isWished 46 = .ok (.iload_n 1, 1) := by decide +kernel
theorem dX12_isWished_47 : decode cX12_isWished 47 = .ok (.iaload, 1) := by decide +kernel
theorem dX12_isWished_48 : decode cX12_isWished 48 = .ok (.if_icmp .ne 7, 3) := by decide +kernel
theorem dX12_isWished_51 : decode cX12_isWished 51 = .ok (.iconst 1, 1) := by decide +kernel
theorem dX12_isWished_52 : decode cX12_isWished 52 = .ok (.goto 4, 3) := by decide +kernel
theorem dX12_isWished_55 : decode cX12_isWished 55 = .ok (.iconst 0, 1) := by decide +kernel
theorem dX12_isWished_56 : decode cX12_isWished 56 = .ok (.ireturn, 1) := by decide +kernel
theorem dX12_isWished_57 : decode cX12_isWished 57 = .ok (.iload_n 3, 1) := by decide +kernel
theorem dX12_isWished_58 : decode cX12_isWished 58 = .ok (.iconst (-1), 1) := by decide +kernel
theorem dX12_isWished_59 : decode cX12_isWished 59 = .ok (.if_icmp .eq 17, 3) := by decide +kernel
theorem dX12_isWished_62 : decode cX12_isWished 62 = .ok (.iload_n 2, 1) := by decide +kernel
theorem dX12_isWished_63 : decode cX12_isWished 63 = .ok (.iconst (-1), 1) := by decide +kernel
theorem dX12_isWished_64 : decode cX12_isWished 64 = .ok (.if_icmp .eq 16, 3) := by decide +kernel
theorem dX12_isWished_67 : decode cX12_isWished 67 = .ok (.aload_n 0, 1) := by decide +kernel
theorem dX12_isWished_68 : decode cX12_isWished 68 = .ok (.iload_n 2, 1) := by decide +kernel
theorem dX12_isWished_69 : decode cX12_isWished 69 = .ok (.iload_n 3, 1) := by decide +kernel
theorem dX12_isWished_70 : decode cX12_isWished 70 = .ok (.invokevirtual 111, 3) := by decide +kernel
theorem dX12_isWished_73 : decode cX12_isWished 73 = .ok (.ifCond .le 7, 3) := by decide +kernel
theorem dX12_isWished_76 : decode cX12_isWished 76 = .ok (.iconst 1, 1) := by decide +kernel
theorem dX12_isWished_77 : decode cX12_isWished 77 = .ok (.goto 4, 3) := by decide +kernel
theorem dX12_isWished_80 : decode cX12_isWished 80 = .ok (.iconst 0, 1) := by decide +kernel
theorem dX12_isWished_81 : decode cX12_isWished 81 = .ok (.ireturn, 1) := by decide +kernel
theorem dX12_goesAhead_0 : decode cX12_goesAhead 0 = .ok (.aload_n 0, 1) := by decide +kernel
theorem dX12_goesAhead_1 : decode cX12_goesAhead 1 = .ok (.invokevirtual 178, 3) := by decide +kernel
theorem dX12_goesAhead_4 : decode cX12_goesAhead 4 = .ok (.istore_n 1, 1) := by decide +kernel
theorem dX12_goesAhead_5 : decode cX12_goesAhead 5 = .ok (.aload_n 0, 1) := by decide +kernel
theorem dX12_goesAhead_6 : decode cX12_goesAhead 6 = .ok (.getfield 181, 3) := by decide +kernel
theorem dX12_goesAhead_9 : decode cX12_goesAhead 9 = .ok (.ifCond .eq 11, 3) := by decide +kernel
theorem dX12_goesAhead_12 : decode cX12_goesAhead 12 = .ok (.iload_n 1, 1) := by decide +kernel
theorem dX12_goesAhead_13 : decode cX12_goesAhead 13 = .ok (.aload_n 0, 1) := by decide +kernel
theorem dX12_goesAhead_14 : decode cX12_goesAhead 14 = .ok (.getfield 184, 3) := by decide +kernel
theorem dX12_goesAhead_17 : decode cX12_goesAhead 17 = .ok (.if_icmp .eq 24, 3) := by decide +kernel
theorem dX12_goesAhead_20 : decode cX12_goesAhead 20 = .ok (.aload_n 0, 1) := by decide +kernel
theorem dX12_goesAhead_21 : decode cX12_goesAhead 21 = .ok (.getfield 181, 3) := by decide +kernel
theorem dX12_goesAhead_24 : decode cX12_goesAhead 24 = .ok (.ifCond .eq 11, 3) := by decide +kernel
theorem dX12_goesAhead_27 : decode cX12_goesAhead 27 = .ok (.iload_n 1, 1) := by decide +kernel
theorem dX12_goesAhead_28 : decode cX12_goesAhead 28 = .ok (.aload_n 0, 1) := by decide +kernel
theorem dX12_goesAhead_29 : decode cX12_goesAhead 29 = .ok (.getfield 184, 3) := by decide +kernel
theorem dX12_goesAhead_32 : decode cX12_goesAhead 32 = .ok (.if_icmp .ge 7, 3) := by decide +kernel
theorem dX12_goesAhead_35 : decode cX12_goesAhead 35 = .ok (.iconst 1, 1) := by decide +kernel
theorem dX12_goesAhead_36 : decode cX12_goesAhead 36 = .ok (.goto 4, 3) := by decide +kernel
theorem dX12_goesAhead_39 : decode cX12_goesAhead 39 = .ok (.iconst 0, 1) := by decide +kernel
theorem dX12_goesAhead_40 : decode cX12_goesAhead 40 = .ok (.ireturn, 1) := by decide +kernel
theorem dX12_goesAhead_41 : decode cX12_goesAhead 41 = .ok (.iconst 0, 1) := by decide +kernel
theorem dX12_goesAhead_42 : decode cX12_goesAhead 42 = .ok (.istore_n 2, 1) := by decide +kernel
theorem dX12_goesAhead_43 : decode cX12_goesAhead 43 = .ok (.iload_n 2, 1) := by decide +kernel
theorem dX12_goesAhead_44 : decode cX12_goesAhead 44 = .ok (.bipush 6, 2) := by decide +kernel
theorem dX12_goesAhead_46 : decode cX12_goesAhead 46 = .ok (.if_icmp .ge 42, 3) := by decide +kernel
theorem dX12_goesAhead_49 : decode cX12_goesAhead 49 = .ok (.aload_n 0, 1) := by decide +kernel
theorem dX12_goesAhead_50 : decode cX12_goesAhead 50 = .ok (.getfield 44, 3) := by decide +kernel
theorem dX12_goesAhead_53 : decode cX12_goesAhead 53 = .ok (.iload_n 2, 1) := by decide +kernel
theorem dX12_goesAhead_54 : decode cX12_goesAhead 54 = .ok (.iaload, 1) := by decide +kernel
theorem dX12_goesAhead_55 : decode cX12_goesAhead 55 = .ok (.aload_n 0, 1) := by decide +kernel
theorem dX12_goesAhead_56 : decode cX12_goesAhead 56 = .ok (.getfield 66, 3) := by decide +kernel
theorem dX12_goesAhead_59 : decode cX12_goesAhead 59 = .ok (.iload_n 2, 1) := by decide +kernel
theorem dX12_goesAhead_60 : decode cX12_goesAhead 60 = .ok (.iaload, 1) := by decide +kernel
theorem dX12_goesAhead_61 : decode cX12_goesAhead 61 = .ok (.if_icmp .eq 21, 3) := by decide +kernel
theorem dX12_goesAhead_64 : decode cX12_goesAhead 64 = .ok (.aload_n 0, 1) := by decide +kernel
theorem dX12_goesAhead_65 : decode cX12_goesAhead 65 = .ok (.iload_n 2, 1) := by decide +kernel
theorem dX12_goesAhead_66 : decode cX12_goesAhead 66 = .ok (.aload_n 0, 1) := by decide +kernel
theorem dX12_goesAhead_67 : decode cX12_goesAhead 67 = .ok (.getfield 44, 3) := by decide +kernel
theorem dX12_goesAhead_70 : decode cX12_goesAhead 70 = .ok (.iload_n 2, 1) := by decide +kernel
theorem dX12_goesAhead_71 : decode cX12_goesAhead 71 = .ok (.iaload, 1) := by decide +kernel
theorem dX12_goesAhead_72 : decode cX12_goesAhead 72 = .ok (.aload_n 0, 1) := by decide +kernel
theorem dX12_goesAhead_73 : decode cX12_goesAhead 73 = .ok (.getfield 66, 3) := by decide +kernel
theorem dX12_goesAhead_76 : decode cX12_goesAhead 76 = .ok (.iload_n 2, 1) := by decide +kernel
theorem dX12_goesAhead_77 : decode cX12_goesAhead 77 = .ok (.iaload, 1) := by decide +kernel
theorem dX12_goesAhead_78 : decode cX12_goesAhead 78 = .ok (.invokevirtual 187, 3) := by decide +kernel
theorem dX12_goesAhead_81 : decode cX12_goesAhead 81 = .ok (.ireturn, 1) := by decide +kernel
theorem dX12_goesAhead_82 : decode cX12_goesAhead 82 = .ok (.iinc 2 1, 3) := by decide +kernel
theorem dX12_goesAhead_85 : decode cX12_goesAhead 85 = .ok (.goto (-42), 3) := by decide +kernel
theorem dX12_goesAhead_88 : decode cX12_goesAhead 88 = .ok (.iconst 0, 1) := by decide +kernel
theorem dX12_goesAhead_89 : decode cX12_goesAhead 89 = .ok (.ireturn, 1) := by decide +kernel
theorem dX12_find_0 : decode cX12_find 0 = .ok (.aload_n 0, 1) := by decide +kernel
theorem dX12_find_1 : decode cX12_find 1 = .ok (.getfield 104, 3) := by decide +kernel
theorem dX12_find_4 : decode cX12_find 4 = .ok (.ifCond .eq 4, 3) := by decide +kernel
theorem dX12_find_7 : decode cX12_find 7 = .ok (.return_, 1) := by decide +kernel
theorem dX12_find_8 : decode cX12_find 8 = .ok (.aload_n 0, 1) := by decide +kernel
theorem dX12_find_9 : decode cX12_find 9 = .ok (.aload_n 0, 1) := by decide +kernel
theorem dX12_find_10 : decode cX12_find 10 = .ok (.aload_n 0, 1) := by decide +kernel
theorem dX12_find_11 : decode cX12_find 11 = .ok (.getfield 190, 3) := by decide +kernel
theorem dX12_find_14 : decode cX12_find 14 = .ok (.invokevirtual 193, 3) := by decide +kernel
theorem dX12_find_17 : decode cX12_find 17 = .ok (.putfield 137, 3) := by decide +kernel
theorem dX12_find_20 : decode cX12_find 20 = .ok (.aload_n 0, 1) := by decide +kernel
theorem dX12_find_21 : decode cX12_find 21 = .ok (.iconst (-1), 1) := by decide +kernel
theorem dX12_find_22 : decode cX12_find 22 = .ok (.putfield 62, 3) := by decide +kernel
theorem dX12_find_25 : decode cX12_find 25 = .ok (.aload_n 0, 1) := by decide +kernel
theorem dX12_find_26 : decode cX12_find 26 = .ok (.iconst 0, 1) := by decide +kernel
theorem dX12_find_27 : decode cX12_find 27 = .ok (.putfield 181, 3) := by decide +kernel
theorem dX12_find_30 : decode cX12_find 30 = .ok (.aload_n 0, 1) := by decide +kernel
theorem dX12_find_31 : decode cX12_find 31 = .ok (.invokevirtual 196, 3) := by decide +kernel
theorem dX12_find_34 : decode cX12_find 34 = .ok (.aload_n 0, 1) := by decide +kernel
theorem dX12_find_35 : decode cX12_find 35 = .ok (.iconst 1, 1) := by decide +kernel
theorem dX12_find_36 : decode cX12_find 36 = .ok (.invokevirtual 199, 3) := by decide +kernel
theorem dX12_find_39 : decode cX12_find 39 = .ok (.istore_n 1, 1) := by decide +kernel
theorem dX12_find_40 : decode cX12_find 40 = .ok (.iload_n 1, 1) := by decide +kernel
theorem dX12_find_41 : decode cX12_find 41 = .ok (.ifCond .eq 96, 3) := by decide +kernel
theorem dX12_find_44 : decode cX12_find 44 = .ok (.aload_n 0, 1) := by decide +kernel
theorem dX12_find_45 : decode cX12_find 45 = .ok (.invokevirtual 203, 3) := by decide +kernel
theorem dX12_find_48 : decode cX12_find 48 = .ok (.ifCond .eq 80, 3) := by decide +kernel
theorem dX12_find_51 : decode cX12_find 51 = .ok (.aload_n 0, 1) := by decide +kernel
theorem dX12_find_52 : decode cX12_find 52 = .ok (.invokevirtual 206, 3) := by decide +kernel
theorem dX12_find_55 : decode cX12_find 55 = .ok (.ifCond .eq 63, 3) := by decide +kernel
theorem dX12_find_58 : decode cX12_find 58 = .ok (.aload_n 0, 1) := by decide +kernel
theorem dX12_find_59 : decode cX12_find 59 = .ok (.aload_n 0, 1) := by decide +kernel
theorem dX12_find_60 : decode cX12_find 60 = .ok (.invokevirtual 178, 3) := by decide +kernel
theorem dX12_find_63 : decode cX12_find 63 = .ok (.putfield 184, 3) := by decide +kernel
theorem dX12_find_66 : decode cX12_find 66 = .ok (.iconst 0, 1) := by decide +kernel
theorem dX12_find_67 : decode cX12_find 67 = .ok (.istore_n 2, 1) := by decide +kernel
theorem dX12_find_68 : decode cX12_find 68 = .ok (.iload_n 2, 1) := by decide +kernel
theorem dX12_find_69 : decode cX12_find 69 = .ok (.bipush 6, 2) := by decide +kernel
theorem dX12_find_71 : decode cX12_find 71 = .ok (.if_icmp .ge 47, 3) := by decide +kernel
theorem dX12_find_74 : decode cX12_find 74 = .ok (.aload_n 0, 1) := by decide +kernel
theorem dX12_find_75 : decode cX12_find 75 = .ok (.getfield 66, 3) := by decide +kernel
theorem dX12_find_78 : decode cX12_find 78 = .ok (.iload_n 2, 1) := by decide +kernel
theorem dX12_find_79 : decode cX12_find 79 = .ok (.aload_n 0, 1) := by decide +kernel
theorem dX12_find_80 : decode cX12_find 80 = .ok (.getfield 44, 3) := by decide +kernel
theorem dX12_find_83 : decode cX12_find 83 = .ok (.iload_n 2, 1) := by decide +kernel
theorem dX12_find_84 : decode cX12_find 84 = .ok (.iaload, 1) := by decide +kernel
theorem dX12_find_85 : decode cX12_find 85 = .ok (.iastore, 1) := by decide +kernel
theorem dX12_find_86 : decode cX12_find 86 = .ok (.aload_n 0, 1) := by decide +kernel
theorem dX12_find_87 : decode cX12_find 87 = .ok (.getfield 69, 3) := by decide +kernel
theorem dX12_find_90 : decode cX12_find 90 = .ok (.iload_n 2, 1) := by decide +kernel
theorem dX12_find_91 : decode cX12_find 91 = .ok (.aload_n 0, 1) := by decide +kernel
theorem dX12_find_92 : decode cX12_find 92 = .ok (.getfield 44, 3) := by decide +kernel
theorem dX12_find_95 : decode cX12_find 95 = .ok (.iload_n 2, 1) := by decide +kernel
theorem dX12_find_96 : decode cX12_find 96 = .ok (.iaload, 1) := by decide +kernel
theorem dX12_find_97 : decode cX12_find 97 = .ok (.iconst (-1), 1) := by decide +kernel
theorem dX12_find_98 : decode cX12_find 98 = .ok (.if_icmp .ne 7, 3) := by decide +kernel
theorem dX12_find_101 : decode cX12_find 101 = .ok (.iconst 0, 1) := by decide +kernel
theorem dX12_find_102 : decode cX12_find 102 = .ok (.goto 9, 3) := by decide +kernel
theorem dX12_find_105 : decode cX12_find 105 = .ok (.aload_n 0, 1) := by decide +kernel
theorem dX12_find_106 : decode cX12_find 106 = .ok (.getfield 47, 3) := by decide +kernel
theorem dX12_find_109 : decode cX12_find 109 = .ok (.iload_n 2, 1) := by decide +kernel
theorem dX12_find_110 : decode cX12_find 110 = .ok (.iaload, 1) := by decide +kernel
theorem dX12_find_111 : decode cX12_find 111 = .ok (.iastore, 1) := by decide +kernel
theorem dX12_find_112 : decode cX12_find 112 = .ok (.iinc 2 1, 3) := by decide +kernel
theorem dX12_find_115 : decode cX12_find 115 = .ok (.goto (-47), 3) := by decide +kernel
theorem dX12_find_118 : decode cX12_find 118 = .ok (.aload_n 0, 1) := by decide +kernel
theorem dX12_find_119 : decode cX12_find 119 = .ok (.dup, 1) := by decide +kernel
theorem dX12_find_120 : decode cX12_find 120 = .ok (.getfield 181, 3) := by decide +kernel
theorem dX12_find_123 : decode cX12_find 123 = .ok (.iconst 1, 1) := by decide +kernel
theorem dX12_find_124 : decode cX12_find 124 = .ok (.iadd, 1) := by decide +kernel
theorem dX12_find_125 : decode cX12_find 125 = .ok (.putfield 181, 3) := by decide +kernel
theorem dX12_find_128 : decode cX12_find 128 = .ok (.aload_n 0, 1) := by decide +kernel
theorem dX12_find_129 : decode cX12_find 129 = .ok (.iconst 0, 1) := by decide +kernel
theorem dX12_find_130 : decode cX12_find 130 = .ok (.invokevirtual 199, 3) := by decide +kernel
theorem dX12_find_133 : decode cX12_find 133 = .ok (.istore_n 1, 1) := by decide +kernel
theorem dX12_find_134 : decode cX12_find 134 = .ok (.goto (-94), 3) := by decide +kernel
theorem dX12_find_137 : decode cX12_find 137 = .ok (.aload_n 0, 1) := by decide +kernel
theorem dX12_find_138 : decode cX12_find 138 = .ok (.iconst 1, 1) := by decide +kernel
theorem dX12_find_139 : decode cX12_find 139 = .ok (.putfield 104, 3) := by decide +kernel
theorem dX12_find_142 : decode cX12_find 142 = .ok (.return_, 1) := by decide +kernel
theorem dX12_isSolvable_0 : decode cX12_isSolvable 0 = .ok (.aload_n 0, 1) := by decide +kernel
theorem dX12_isSolvable_1 : decode cX12_isSolvable 1 = .ok (.iload_n 1, 1) := by decide +kernel
theorem dX12_isSolvable_2 : decode cX12_isSolvable 2 = .ok (.putfield 137, 3) := by decide +kernel
theorem dX12_isSolvable_5 : decode cX12_isSolvable 5 = .ok (.aload_n 0, 1) := by decide +kernel
theorem dX12_isSolvable_6 : decode cX12_isSolvable 6 = .ok (.iload_n 2, 1) := by decide +kernel
theorem dX12_isSolvable_7 : decode cX12_isSolvable 7 = .ok (.putfield 62, 3) := by decide +kernel
theorem dX12_isSolvable_10 : decode cX12_isSolvable 10 = .ok (.aload_n 0, 1) := by decide +kernel
theorem dX12_isSolvable_11 : decode cX12_isSolvable 11 = .ok (.invokevirtual 196, 3) := by decide +kernel
theorem dX12_isSolvable_14 : decode cX12_isSolvable 14 = .ok (.aload_n 0, 1) := by decide +kernel
theorem dX12_isSolvable_15 : decode cX12_isSolvable 15 = .ok (.iconst 1, 1) := by decide +kernel
theorem dX12_isSolvable_16 : decode cX12_isSolvable 16 = .ok (.invokevirtual 199, 3) := by decide +kernel
theorem dX12_isSolvable_19 : decode cX12_isSolvable 19 = .ok (.istore_n 3, 1) := by decide +kernel
theorem dX12_isSolvable_20 : decode cX12_isSolvable 20 = .ok (.iload_n 3, 1) := by decide +kernel
theorem dX12_isSolvable_21 : decode cX12_isSolvable 21 = .ok (.ifCond .eq 21, 3) := by decide +kernel
theorem dX12_isSolvable_24 : decode cX12_isSolvable 24 = .ok (.aload_n 0, 1) := by decide +kernel
theorem dX12_isSolvable_25 : decode cX12_isSolvable 25 = .ok (.invokevirtual 203, 3) := by decide +kernel
theorem dX12_isSolvable_28 : decode cX12_isSolvable 28 = .ok (.ifCond .eq 5, 3) := by decide +kernel
theorem dX12_isSolvable_31 : decode cX12_isSolvable 31 = .ok (.iconst 1, 1) := by decide +kernel
theorem dX12_isSolvable_32 : decode cX12_isSolvable 32 = .ok (.ireturn, 1) := by decide +kernel
theorem dX12_isSolvable_33 : decode cX12_isSolvable 33 = .ok (.aload_n 0, 1) := by decide +kernel
theorem dX12_isSolvable_34 : decode cX12_isSolvable 34 = .ok (.iconst 0, 1) := by decide +kernel
theorem dX12_isSolvable_35 : decode cX12_isSolvable 35 = .ok (.invokevirtual 199, 3) := by decide +kernel
theorem dX12_isSolvable_38 : decode cX12_isSolvable 38 = .ok (.istore_n 3, 1) := by decide +kernel
theorem dX12_isSolvable_39 : decode cX12_isSolvable 39 = .ok (.goto (-19), 3) := by decide +kernel
theorem dX12_isSolvable_42 : decode cX12_isSolvable 42 = .ok (.iconst 0, 1) := by decide +kernel
theorem dX12_isSolvable_43 : decode cX12_isSolvable 43 = .ok (.ireturn, 1) := by decide +kernel
theorem dX12_solve_0 : decode cX12_solve 0 = .ok (.aload_n 0, 1) := by decide +kernel
theorem dX12_solve_1 : decode cX12_solve 1 = .ok (.iload_n 1, 1) := by decide +kernel
theorem dX12_solve_2 : decode cX12_solve 2 = .ok (.iconst 0, 1) := by decide +kernel
theorem dX12_solve_3 : decode cX12_solve 3 = .ok (.bipush 7, 2) := by decide +kernel
theorem dX12_solve_5 : decode cX12_solve 5 = .ok (.invokestatic 75, 3) := by decide +kernel
theorem dX12_solve_8 : decode cX12_solve 8 = .ok (.ifCond .eq 17, 3) := by decide +kernel
theorem dX12_solve_11 : decode cX12_solve 11 = .ok (.iload_n 2, 1) := by decide +kernel
theorem dX12_solve_12 : decode cX12_solve 12 = .ok (.iconst 0, 1) := by decide +kernel
theorem dX12_solve_13 : decode cX12_solve 13 = .ok (.bipush 63, 2) := by decide +kernel
theorem dX12_solve_15 : decode cX12_solve 15 = .ok (.invokestatic 75, 3) := by decide +kernel
theorem dX12_solve_18 : decode cX12_solve 18 = .ok (.ifCond .eq 7, 3) := by decide +kernel
theorem dX12_solve_21 : decode cX12_solve 21 = .ok (.iconst 0, 1) := by decide +kernel
theorem dX12_solve_22 : decode cX12_solve 22 = .ok (.goto 4, 3) := by decide +kernel
theorem dX12_solve_25 : decode cX12_solve 25 = .ok (.iconst 1, 1) := by decide +kernel
theorem dX12_solve_26 : decode cX12_solve 26 = .ok (.invokevirtual 101, 3) := by decide +kernel
theorem dX12_solve_29 : decode cX12_solve 29 = .ok (.ifCond .ne 5, 3) := by decide +kernel
theorem dX12_solve_32 : decode cX12_solve 32 = .ok (.iconst 0, 1) := by decide +kernel
theorem dX12_solve_33 : decode cX12_solve 33 = .ok (.ireturn, 1) := by decide +kernel
theorem dX12_solve_34 : decode cX12_solve 34 = .ok (.aload_n 0, 1) := by decide +kernel
theorem dX12_solve_35 : decode cX12_solve 35 = .ok (.iload_n 1, 1) := by decide +kernel
theorem dX12_solve_36 : decode cX12_solve 36 = .ok (.putfield 190, 3) := by decide +kernel
theorem dX12_solve_39 : decode cX12_solve 39 = .ok (.aload_n 0, 1) := by decide +kernel
theorem dX12_solve_40 : decode cX12_solve 40 = .ok (.iload_n 2, 1) := by decide +kernel
theorem dX12_solve_41 : decode cX12_solve 41 = .ok (.putfield 172, 3) := by decide +kernel
theorem dX12_solve_44 : decode cX12_solve 44 = .ok (.aload_n 0, 1) := by decide +kernel
theorem dX12_solve_45 : decode cX12_solve 45 = .ok (.iconst 0, 1) := by decide +kernel
theorem dX12_solve_46 : decode cX12_solve 46 = .ok (.putfield 104, 3) := by decide +kernel
theorem dX12_solve_49 : decode cX12_solve 49 = .ok (.aload_n 0, 1) := by decide +kernel
theorem dX12_solve_50 : decode cX12_solve 50 = .ok (.invokevirtual 209, 3) := by decide +kernel
theorem dX12_solve_53 : decode cX12_solve 53 = .ok (.iconst 0, 1) := by decide +kernel
theorem dX12_solve_54 : decode cX12_solve 54 = .ok (.istore_n 3, 1) := by decide +kernel
theorem dX12_solve_55 : decode cX12_solve 55 = .ok (.iconst 0, 1) := by decide +kernel
theorem dX12_solve_56 : decode cX12_solve 56 = .ok (.istore 4, 2) := by decide +kernel
theorem dX12_solve_58 : decode cX12_solve 58 = .ok (.iload 4, 2) := by decide +kernel
theorem dX12_solve_60 : decode cX12_solve 60 = .ok (.bipush 6, 2) := by decide +kernel
theorem dX12_solve_62 : decode cX12_solve 62 = .ok (.if_icmp .ge 28, 3) := by decide +kernel
theorem dX12_solve_65 : decode cX12_solve 65 = .ok (.iload_n 3, 1) := by decide +kernel
theorem dX12_solve_66 : decode cX12_solve 66 = .ok (.aload_n 0, 1) := by decide +kernel
theorem dX12_solve_67 : decode cX12_solve 67 = .ok (.getfield 66, 3) := by decide +kernel
theorem dX12_solve_70 : decode cX12_solve 70 = .ok (.iload 4, 2) := by decide +kernel
theorem dX12_solve_72 : decode cX12_solve 72 = .ok (.iaload, 1) := by decide +kernel
theorem dX12_solve_73 : decode cX12_solve 73 = .ok (.iconst (-1), 1) := by decide +kernel
theorem dX12_solve_74 : decode cX12_solve 74 = .ok (.if_icmp .ne 7, 3) := by decide +kernel
theorem dX12_solve_77 : decode cX12_solve 77 = .ok (.iconst 0, 1) := by decide +kernel
theorem dX12_solve_78 : decode cX12_solve 78 = .ok (.goto 4, 3) := by decide +kernel
theorem dX12_solve_81 : decode cX12_solve 81 = .ok (.iconst 1, 1) := by decide +kernel
theorem dX12_solve_82 : decode cX12_solve 82 = .ok (.iadd, 1) := by decide +kernel
theorem dX12_solve_83 : decode cX12_solve 83 = .ok (.istore_n 3, 1) := by decide +kernel
theorem dX12_solve_84 : decode cX12_solve 84 = .ok (.iinc 4 1, 3) := by decide +kernel
theorem dX12_solve_87 : decode cX12_solve 87 = .ok (.goto (-29), 3) := by decide +kernel
theorem dX12_solve_90 : decode cX12_solve 90 = .ok (.aload_n 0, 1) := by decide +kernel
theorem dX12_solve_91 : decode cX12_solve 91 = .ok (.getfield 181, 3) := by decide +kernel
theorem dX12_solve_94 : decode cX12_solve 94 = .ok (.ifCond .ne 7, 3) := by decide +kernel
theorem dX12_solve_97 : decode cX12_solve 97 = .ok (.iconst (-1), 1) := by decide +kernel
theorem dX12_solve_98 : decode cX12_solve 98 = .ok (.goto 4, 3) := by decide +kernel
theorem dX12_solve_101 : decode cX12_solve 101 = .ok (.iload_n 3, 1) := by decide +kernel
theorem dX12_solve_102 : decode cX12_solve 102 = .ok (.ireturn, 1) := by decide +kernel
theorem dX12_chosenOf_0 : decode cX12_chosenOf 0 = .ok (.aload_n 0, 1) := by decide +kernel
theorem dX12_chosenOf_1 : decode cX12_chosenOf 1 = .ok (.invokevirtual 209, 3) := by decide +kernel
theorem dX12_chosenOf_4 : decode cX12_chosenOf 4 = .ok (.aload_n 0, 1) := by decide +kernel
theorem dX12_chosenOf_5 : decode cX12_chosenOf 5 = .ok (.getfield 181, 3) := by decide +kernel
theorem dX12_chosenOf_8 : decode cX12_chosenOf 8 = .ok (.ifCond .ne 7, 3) := by decide +kernel
theorem dX12_chosenOf_11 : decode cX12_chosenOf 11 = .ok (.iconst (-1), 1) := by decide +kernel
theorem dX12_chosenOf_12 : decode cX12_chosenOf 12 = .ok (.goto 9, 3) := by decide +kernel
theorem dX12_chosenOf_15 : decode cX12_chosenOf 15 = .ok (.aload_n 0, 1) := by decide +kernel
theorem dX12_chosenOf_16 : decode cX12_chosenOf 16 = .ok (.getfield 66, 3) := by decide +kernel
theorem dX12_chosenOf_19 : decode cX12_chosenOf 19 = .ok (.iload_n 1, 1) := by decide +kernel
theorem dX12_chosenOf_20 : decode cX12_chosenOf 20 = .ok (.iaload, 1) := by decide +kernel
theorem dX12_chosenOf_21 : decode cX12_chosenOf 21 = .ok (.ireturn, 1) := by decide +kernel
theorem dX12_chosen_0 : decode cX12_chosen 0 = .ok (.aload_n 0, 1) := by decide +kernel
theorem dX12_chosen_1 : decode cX12_chosen 1 = .ok (.iload_n 1, 1) := by decide +kernel
theorem dX12_chosen_2 : decode cX12_chosen 2 = .ok (.invokestatic 93, 3) := by decide +kernel
theorem dX12_chosen_5 : decode cX12_chosen 5 = .ok (.ifCond .eq 7, 3) := by decide +kernel
theorem dX12_chosen_8 : decode cX12_chosen 8 = .ok (.iconst 0, 1) := by decide +kernel
theorem dX12_chosen_9 : decode cX12_chosen 9 = .ok (.goto 4, 3) := by decide +kernel
theorem dX12_chosen_12 : decode cX12_chosen 12 = .ok (.iconst 1, 1) := by decide +kernel
theorem dX12_chosen_13 : decode cX12_chosen 13 = .ok (.invokevirtual 101, 3) := by decide +kernel
theorem dX12_chosen_16 : decode cX12_chosen 16 = .ok (.ifCond .eq 11, 3) := by decide +kernel
theorem dX12_chosen_19 : decode cX12_chosen 19 = .ok (.aload_n 0, 1) := by decide +kernel
theorem dX12_chosen_20 : decode cX12_chosen 20 = .ok (.iload_n 1, 1) := by decide +kernel
theorem dX12_chosen_21 : decode cX12_chosen 21 = .ok (.invokevirtual 212, 3) := by decide +kernel
theorem dX12_chosen_24 : decode cX12_chosen 24 = .ok (.goto 4, 3) := by decide +kernel
theorem dX12_chosen_27 : decode cX12_chosen 27 = .ok (.iconst 0, 1) := by decide +kernel
theorem dX12_chosen_28 : decode cX12_chosen 28 = .ok (.ireturn, 1) := by decide +kernel
theorem dX12_chosenAnew_0 : decode cX12_chosenAnew 0 = .ok (.aload_n 0, 1) := by decide +kernel
theorem dX12_chosenAnew_1 : decode cX12_chosenAnew 1 = .ok (.iload_n 1, 1) := by decide +kernel
theorem dX12_chosenAnew_2 : decode cX12_chosenAnew 2 = .ok (.invokestatic 93, 3) := by decide +kernel
theorem dX12_chosenAnew_5 : decode cX12_chosenAnew 5 = .ok (.ifCond .eq 7, 3) := by decide +kernel
theorem dX12_chosenAnew_8 : decode cX12_chosenAnew 8 = .ok (.iconst 0, 1) := by decide +kernel
theorem dX12_chosenAnew_9 : decode cX12_chosenAnew 9 = .ok (.goto 4, 3) := by decide +kernel
theorem dX12_chosenAnew_12 : decode cX12_chosenAnew 12 = .ok (.iconst 1, 1) := by decide +kernel
theorem dX12_chosenAnew_13 : decode cX12_chosenAnew 13 = .ok (.invokevirtual 101, 3) := by decide +kernel
theorem dX12_chosenAnew_16 : decode cX12_chosenAnew 16 = .ok (.ifCond .ne 5, 3) := by decide +kernel
theorem dX12_chosenAnew_19 : decode cX12_chosenAnew 19 = .ok (.iconst 0, 1) := by decide +kernel
theorem dX12_chosenAnew_20 : decode cX12_chosenAnew 20 = .ok (.ireturn, 1) := by decide +kernel
theorem dX12_chosenAnew_21 : decode cX12_chosenAnew 21 = .ok (.aload_n 0, 1) := by decide +kernel
theorem dX12_chosenAnew_22 : decode cX12_chosenAnew 22 = .ok (.iconst 0, 1) := by decide +kernel
theorem dX12_chosenAnew_23 : decode cX12_chosenAnew 23 = .ok (.putfield 104, 3) := by decide +kernel
theorem dX12_chosenAnew_26 : decode cX12_chosenAnew 26 = .ok (.aload_n 0, 1) := by decide +kernel
theorem dX12_chosenAnew_27 : decode cX12_chosenAnew 27 = .ok (.iload_n 1, 1) := by decide +kernel
theorem dX12_chosenAnew_28 : decode cX12_chosenAnew 28 = .ok (.invokevirtual 212, 3) := by decide +kernel
theorem dX12_chosenAnew_31 : decode cX12_chosenAnew 31 = .ok (.ireturn, 1) := by decide +kernel
theorem dX12_features_0 : decode cX12_features 0 = .ok (.aload_n 0, 1) := by decide +kernel
theorem dX12_features_1 : decode cX12_features 1 = .ok (.iload_n 1, 1) := by decide +kernel
theorem dX12_features_2 : decode cX12_features 2 = .ok (.invokestatic 93, 3) := by decide +kernel
theorem dX12_features_5 : decode cX12_features 5 = .ok (.ifCond .eq 7, 3) := by decide +kernel
theorem dX12_features_8 : decode cX12_features 8 = .ok (.iconst 0, 1) := by decide +kernel
theorem dX12_features_9 : decode cX12_features 9 = .ok (.goto 4, 3) := by decide +kernel
theorem dX12_features_12 : decode cX12_features 12 = .ok (.iconst 1, 1) := by decide +kernel
theorem dX12_features_13 : decode cX12_features 13 = .ok (.invokevirtual 101, 3) := by decide +kernel
theorem dX12_features_16 : decode cX12_features 16 = .ok (.ifCond .eq 21, 3) := by decide +kernel
theorem dX12_features_19 : decode cX12_features 19 = .ok (.aload_n 0, 1) := by decide +kernel
theorem dX12_features_20 : decode cX12_features 20 = .ok (.iload_n 1, 1) := by decide +kernel
theorem dX12_features_21 : decode cX12_features 21 = .ok (.invokevirtual 212, 3) := by decide +kernel
theorem dX12_features_24 : decode cX12_features 24 = .ok (.iconst (-1), 1) := by decide +kernel
theorem dX12_features_25 : decode cX12_features 25 = .ok (.if_icmp .eq 12, 3) := by decide +kernel
theorem dX12_features_28 : decode cX12_features 28 = .ok (.aload_n 0, 1) := by decide +kernel
theorem dX12_features_29 : decode cX12_features 29 = .ok (.getfield 69, 3) := by decide +kernel
theorem dX12_features_32 : decode cX12_features 32 = .ok (.iload_n 1, 1) := by decide +kernel
theorem dX12_features_33 : decode cX12_features 33 = .ok (.iaload, 1) := by decide +kernel
theorem dX12_features_34 : decode cX12_features 34 = .ok (.goto 4, 3) := by decide +kernel
theorem dX12_features_37 : decode cX12_features 37 = .ok (.iconst 0, 1) := by decide +kernel
theorem dX12_features_38 : decode cX12_features 38 = .ok (.ireturn, 1) := by decide +kernel
theorem dX12_solutions_0 : decode cX12_solutions 0 = .ok (.aload_n 0, 1) := by decide +kernel
theorem dX12_solutions_1 : decode cX12_solutions 1 = .ok (.iconst 0, 1) := by decide +kernel
theorem dX12_solutions_2 : decode cX12_solutions 2 = .ok (.putfield 72, 3) := by decide +kernel
theorem dX12_solutions_5 : decode cX12_solutions 5 = .ok (.aload_n 0, 1) := by decide +kernel
theorem dX12_solutions_6 : decode cX12_solutions 6 = .ok (.invokevirtual 209, 3) := by decide +kernel
theorem dX12_solutions_9 : decode cX12_solutions 9 = .ok (.aload_n 0, 1) := by decide +kernel
theorem dX12_solutions_10 : decode cX12_solutions 10 = .ok (.getfield 181, 3) := by decide +kernel
theorem dX12_solutions_13 : decode cX12_solutions 13 = .ok (.sipush 1000, 3) := by decide +kernel
theorem dX12_solutions_16 : decode cX12_solutions 16 = .ok (.if_icmp .le 9, 3) := by decide +kernel
theorem dX12_solutions_19 : decode cX12_solutions 19 = .ok (.sipush 1000, 3) := by decide +kernel
theorem dX12_solutions_22 : decode cX12_solutions 22 = .ok (.goto 7, 3) := by decide +kernel
theorem dX12_solutions_25 : decode cX12_solutions 25 = .ok (.aload_n 0, 1) := by decide +kernel
theorem dX12_solutions_26 : decode cX12_solutions 26 = .ok (.getfield 181, 3) := by decide +kernel
theorem dX12_solutions_29 : decode cX12_solutions 29 = .ok (.ireturn, 1) := by decide +kernel
theorem dX12_bits_0 : decode cX12_bits 0 = .ok (.iconst 0, 1) := by decide +kernel
theorem dX12_bits_1 : decode cX12_bits 1 = .ok (.istore_n 1, 1) := by decide +kernel
theorem dX12_bits_2 : decode cX12_bits 2 = .ok (.iconst 0, 1) := by decide +kernel
theorem dX12_bits_3 : decode cX12_bits 3 = .ok (.istore_n 2, 1) := by decide +kernel
theorem dX12_bits_4 : decode cX12_bits 4 = .ok (.iload_n 2, 1) := by decide +kernel
theorem dX12_bits_5 : decode cX12_bits 5 = .ok (.bipush 6, 2) := by decide +kernel
theorem dX12_bits_7 : decode cX12_bits 7 = .ok (.if_icmp .ge 17, 3) := by decide +kernel
theorem dX12_bits_10 : decode cX12_bits 10 = .ok (.iload_n 1, 1) := by decide +kernel
theorem dX12_bits_11 : decode cX12_bits 11 = .ok (.iload_n 0, 1) := by decide +kernel
theorem dX12_bits_12 : decode cX12_bits 12 = .ok (.iload_n 2, 1) := by decide +kernel
theorem dX12_bits_13 : decode cX12_bits 13 = .ok (.ishr, 1) := by decide +kernel
theorem dX12_bits_14 : decode cX12_bits 14 = .ok (.iconst 1, 1) := by decide +kernel
theorem dX12_bits_15 : decode cX12_bits 15 = .ok (.iand, 1) := by decide +kernel
theorem dX12_bits_16 : decode cX12_bits 16 = .ok (.iadd, 1) := by decide +kernel
theorem dX12_bits_17 : decode cX12_bits 17 = .ok (.istore_n 1, 1) := by decide +kernel
theorem dX12_bits_18 : decode cX12_bits 18 = .ok (.iinc 2 1, 3) := by decide +kernel
theorem dX12_bits_21 : decode cX12_bits 21 = .ok (.goto (-17), 3) := by decide +kernel
theorem dX12_bits_24 : decode cX12_bits 24 = .ok (.iload_n 1, 1) := by decide +kernel
theorem dX12_bits_25 : decode cX12_bits 25 = .ok (.ireturn, 1) := by decide +kernel
theorem dX12_why_0 : decode cX12_why 0 = .ok (.aload_n 0, 1) := by decide +kernel
theorem dX12_why_1 : decode cX12_why 1 = .ok (.iconst 0, 1) := by decide +kernel
theorem dX12_why_2 : decode cX12_why 2 = .ok (.putfield 72, 3) := by decide +kernel
theorem dX12_why_5 : decode cX12_why 5 = .ok (.aload_n 0, 1) := by decide +kernel
theorem dX12_why_6 : decode cX12_why 6 = .ok (.invokevirtual 209, 3) := by decide +kernel
theorem dX12_why_9 : decode cX12_why 9 = .ok (.aload_n 0, 1) := by decide +kernel
theorem dX12_why_10 : decode cX12_why 10 = .ok (.aload_n 0, 1) := by decide +kernel
theorem dX12_why_11 : decode cX12_why 11 = .ok (.getfield 190, 3) := by decide +kernel
theorem dX12_why_14 : decode cX12_why 14 = .ok (.invokevirtual 193, 3) := by decide +kernel
theorem dX12_why_17 : decode cX12_why 17 = .ok (.istore_n 1, 1) := by decide +kernel
theorem dX12_why_18 : decode cX12_why 18 = .ok (.iconst 1, 1) := by decide +kernel
theorem dX12_why_19 : decode cX12_why 19 = .ok (.istore_n 2, 1) := by decide +kernel
theorem dX12_why_20 : decode cX12_why 20 = .ok (.iload_n 2, 1) := by decide +kernel
theorem dX12_why_21 : decode cX12_why 21 = .ok (.bipush 6, 2) := by decide +kernel
theorem dX12_why_23 : decode cX12_why 23 = .ok (.if_icmp .gt 56, 3) := by decide +kernel
theorem dX12_why_26 : decode cX12_why 26 = .ok (.aload_n 0, 1) := by decide +kernel
theorem dX12_why_27 : decode cX12_why 27 = .ok (.getfield 181, 3) := by decide +kernel
theorem dX12_why_30 : decode cX12_why 30 = .ok (.ifCond .ne 49, 3) := by decide +kernel
theorem dX12_why_33 : decode cX12_why 33 = .ok (.iconst 1, 1) := by decide +kernel
theorem dX12_why_34 : decode cX12_why 34 = .ok (.istore_n 3, 1) := by decide +kernel
theorem dX12_why_35 : decode cX12_why 35 = .ok (.iload_n 3, 1) := by decide +kernel
theorem dX12_why_36 : decode cX12_why 36 = .ok (.iload_n 1, 1) := by decide +kernel
theorem dX12_why_37 : decode cX12_why 37 = .ok (.if_icmp .gt 36, 3) := by decide +kernel
theorem dX12_why_40 : decode cX12_why 40 = .ok (.iload_n 3, 1) := by decide +kernel
theorem dX12_why_41 : decode cX12_why 41 = .ok (.iload_n 1, 1) := by decide +kernel
theorem dX12_why_42 : decode cX12_why 42 = .ok (.iconst (-1), 1) := by decide +kernel
theorem dX12_why_43 : decode cX12_why 43 = .ok (.ixor, 1) := by decide +kernel
theorem dX12_why_44 : decode cX12_why 44 = .ok (.iand, 1) := by decide +kernel
theorem dX12_why_45 : decode cX12_why 45 = .ok (.ifCond .ne 22, 3) := by decide +kernel
theorem dX12_why_48 : decode cX12_why 48 = .ok (.iload_n 3, 1) := by decide +kernel
theorem dX12_why_49 : decode cX12_why 49 = .ok (.invokestatic 215, 3) := by decide +kernel
theorem dX12_why_52 : decode cX12_why 52 = .ok (.iload_n 2, 1) := by decide +kernel
theorem dX12_why_53 : decode cX12_why 53 = .ok (.if_icmp .ne 14, 3) := by decide +kernel
theorem dX12_why_56 : decode cX12_why 56 = .ok (.aload_n 0, 1) := by decide +kernel
theorem dX12_why_57 : decode cX12_why 57 = .ok (.iload_n 3, 1) := by decide +kernel
theorem dX12_why_58 : decode cX12_why 58 = .ok (.iconst (-1), 1) := by decide +kernel
theorem dX12_why_59 : decode cX12_why 59 = .ok (.invokevirtual 218, 3) := by decide +kernel
theorem dX12_why_62 : decode cX12_why 62 = .ok (.ifCond .ne 5, 3) := by decide +kernel
theorem dX12_why_65 : decode cX12_why 65 = .ok (.iload_n 3, 1) := by decide +kernel
theorem dX12_why_66 : decode cX12_why 66 = .ok (.ireturn, 1) := by decide +kernel
theorem dX12_why_67 : decode cX12_why 67 = .ok (.iinc 3 1, 3) := by decide +kernel
theorem dX12_why_70 : decode cX12_why 70 = .ok (.goto (-35), 3) := by decide +kernel
theorem dX12_why_73 : decode cX12_why 73 = .ok (.iinc 2 1, 3) := by decide +kernel
theorem dX12_why_76 : decode cX12_why 76 = .ok (.goto (-56), 3) := by decide +kernel
theorem dX12_why_79 : decode cX12_why 79 = .ok (.iconst 0, 1) := by decide +kernel
theorem dX12_why_80 : decode cX12_why 80 = .ok (.ireturn, 1) := by decide +kernel
theorem dX12_against_0 : decode cX12_against 0 = .ok (.aload_n 0, 1) := by decide +kernel
theorem dX12_against_1 : decode cX12_against 1 = .ok (.aload_n 0, 1) := by decide +kernel
theorem dX12_against_2 : decode cX12_against 2 = .ok (.iload_n 1, 1) := by decide +kernel
theorem dX12_against_3 : decode cX12_against 3 = .ok (.invokevirtual 108, 3) := by decide +kernel
theorem dX12_against_6 : decode cX12_against 6 = .ok (.ifCond .eq 7, 3) := by decide +kernel
theorem dX12_against_9 : decode cX12_against 9 = .ok (.iconst 0, 1) := by decide +kernel
theorem dX12_against_10 : decode cX12_against 10 = .ok (.goto 4, 3) := by decide +kernel
theorem dX12_against_13 : decode cX12_against 13 = .ok (.iconst 1, 1) := by decide +kernel
theorem dX12_against_14 : decode cX12_against 14 = .ok (.invokevirtual 101, 3) := by decide +kernel
theorem dX12_against_17 : decode cX12_against 17 = .ok (.ifCond .ne 5, 3) := by decide +kernel
theorem dX12_against_20 : decode cX12_against 20 = .ok (.iconst 0, 1) := by decide +kernel
theorem dX12_against_21 : decode cX12_against 21 = .ok (.ireturn, 1) := by decide +kernel
theorem dX12_against_22 : decode cX12_against 22 = .ok (.aload_n 0, 1) := by decide +kernel
theorem dX12_against_23 : decode cX12_against 23 = .ok (.iload_n 1, 1) := by decide +kernel
theorem dX12_against_24 : decode cX12_against 24 = .ok (.invokevirtual 134, 3) := by decide +kernel
theorem dX12_against_27 : decode cX12_against 27 = .ok (.istore_n 2, 1) := by decide +kernel
theorem dX12_against_28 : decode cX12_against 28 = .ok (.iload_n 2, 1) := by decide +kernel
theorem dX12_against_29 : decode cX12_against 29 = .ok (.ifCond .eq 5, 3) := by decide +kernel
theorem dX12_against_32 : decode cX12_against 32 = .ok (.iload_n 2, 1) := by decide +kernel
theorem dX12_against_33 : decode cX12_against 33 = .ok (.ireturn, 1) := by decide +kernel
theorem dX12_against_34 : decode cX12_against 34 = .ok (.aload_n 0, 1) := by decide +kernel
theorem dX12_against_35 : decode cX12_against 35 = .ok (.aload_n 0, 1) := by decide +kernel
theorem dX12_against_36 : decode cX12_against 36 = .ok (.getfield 190, 3) := by decide +kernel
theorem dX12_against_39 : decode cX12_against 39 = .ok (.invokevirtual 193, 3) := by decide +kernel
theorem dX12_against_42 : decode cX12_against 42 = .ok (.istore_n 3, 1) := by decide +kernel
theorem dX12_against_43 : decode cX12_against 43 = .ok (.iconst 0, 1) := by decide +kernel
theorem dX12_against_44 : decode cX12_against 44 = .ok (.istore 4, 2) := by decide +kernel
theorem dX12_against_46 : decode cX12_against 46 = .ok (.iload 4, 2) := by decide +kernel
theorem dX12_against_48 : decode cX12_against 48 = .ok (.aload_n 0, 1) := by decide +kernel
theorem dX12_against_49 : decode cX12_against 49 = .ok (.getfield 125, 3) := by decide +kernel
theorem dX12_against_52 : decode cX12_against 52 = .ok (.if_icmp .ge 68, 3) := by decide +kernel
theorem dX12_against_55 : decode cX12_against 55 = .ok (.iload_n 3, 1) := by decide +kernel
theorem dX12_against_56 : decode cX12_against 56 = .ok (.iload 4, 2) := by decide +kernel
theorem dX12_against_58 : decode cX12_against 58 = .ok (.ishr, 1) := by decide +kernel
theorem dX12_against_59 : decode cX12_against 59 = .ok (.iconst 1, 1) := by decide +kernel
theorem dX12_against_60 : decode cX12_against 60 = .ok (.iand, 1) := by decide +kernel
theorem dX12_against_61 : decode cX12_against 61 = .ok (.iconst 1, 1) := by decide +kernel
theorem dX12_against_62 : decode cX12_against 62 = .ok (.if_icmp .ne 52, 3) := by decide +kernel
theorem dX12_against_65 : decode cX12_against 65 = .ok (.aload_n 0, 1) := by decide +kernel
theorem dX12_against_66 : decode cX12_against 66 = .ok (.aload_n 0, 1) := by decide +kernel
theorem dX12_against_67 : decode cX12_against 67 = .ok (.getfield 26, 3) := by decide +kernel
theorem dX12_against_70 : decode cX12_against 70 = .ok (.iconst 4, 1) := by decide +kernel
theorem dX12_against_71 : decode cX12_against 71 = .ok (.iload 4, 2) := by decide +kernel
theorem dX12_against_73 : decode cX12_against 73 = .ok (.imul, 1) := by decide +kernel
theorem dX12_against_74 : decode cX12_against 74 = .ok (.iconst 1, 1) := by decide +kernel
theorem dX12_against_75 : decode cX12_against 75 = .ok (.iadd, 1) := by decide +kernel
theorem dX12_against_76 : decode cX12_against 76 = .ok (.iaload, 1) := by decide +kernel
theorem dX12_against_77 : decode cX12_against 77 = .ok (.invokevirtual 140, 3) := by decide +kernel
theorem dX12_against_80 : decode cX12_against 80 = .ok (.aload_n 0, 1) := by decide +kernel
theorem dX12_against_81 : decode cX12_against 81 = .ok (.iload_n 1, 1) := by decide +kernel
theorem dX12_against_82 : decode cX12_against 82 = .ok (.invokevirtual 97, 3) := by decide +kernel
theorem dX12_against_85 : decode cX12_against 85 = .ok (.if_icmp .ne 29, 3) := by decide +kernel
theorem dX12_against_88 : decode cX12_against 88 = .ok (.aload_n 0, 1) := by decide +kernel
theorem dX12_against_89 : decode cX12_against 89 = .ok (.getfield 22, 3) := by decide +kernel
theorem dX12_against_92 : decode cX12_against 92 = .ok (.bipush 24, 2) := by decide +kernel
theorem dX12_against_94 : decode cX12_against 94 = .ok (.aload_n 0, 1) := by decide +kernel
theorem dX12_against_95 : decode cX12_against 95 = .ok (.getfield 26, 3) := by decide +kernel
theorem dX12_against_98 : decode cX12_against 98 = .ok (.iconst 4, 1) := by decide +kernel
theorem dX12_against_99 : decode cX12_against 99 = .ok (.iload 4, 2) := by decide +kernel
theorem dX12_against_101 : decode cX12_against 101 = .ok (.imul, 1) := by decide +kernel
theorem dX12_against_102 : decode cX12_against 102 = .ok (.iconst 2, 1) := by decide +kernel
theorem dX12_against_103 : decode cX12_against 103 = .ok (.iadd, 1) := by decide +kernel
theorem dX12_against_104 : decode cX12_against 104 = .ok (.iaload, 1) := by decide +kernel
theorem dX12_against_105 : decode cX12_against 105 = .ok (.imul, 1) := by decide +kernel
theorem dX12_against_106 : decode cX12_against 106 = .ok (.iload_n 1, 1) := by decide +kernel
theorem dX12_against_107 : decode cX12_against 107 = .ok (.iadd, 1) := by decide +kernel
theorem dX12_against_108 : decode cX12_against 108 = .ok (.baload, 1) := by decide +kernel
theorem dX12_against_109 : decode cX12_against 109 = .ok (.ifCond .ne 5, 3) := by decide +kernel
theorem dX12_against_112 : decode cX12_against 112 = .ok (.iconst 5, 1) := by decide +kernel
theorem dX12_against_113 : decode cX12_against 113 = .ok (.ireturn, 1) := by decide +kernel
theorem dX12_against_114 : decode cX12_against 114 = .ok (.iinc 4 1, 3) := by decide +kernel
theorem dX12_against_117 : decode cX12_against 117 = .ok (.goto (-71), 3) := by decide +kernel
theorem dX12_against_120 : decode cX12_against 120 = .ok (.aload_n 0, 1) := by decide +kernel
theorem dX12_against_121 : decode cX12_against 121 = .ok (.invokevirtual 209, 3) := by decide +kernel
theorem dX12_against_124 : decode cX12_against 124 = .ok (.aload_n 0, 1) := by decide +kernel
theorem dX12_against_125 : decode cX12_against 125 = .ok (.getfield 181, 3) := by decide +kernel
theorem dX12_against_128 : decode cX12_against 128 = .ok (.ifCond .le 19, 3) := by decide +kernel
theorem dX12_against_131 : decode cX12_against 131 = .ok (.aload_n 0, 1) := by decide +kernel
theorem dX12_against_132 : decode cX12_against 132 = .ok (.getfield 66, 3) := by decide +kernel
theorem dX12_against_135 : decode cX12_against 135 = .ok (.aload_n 0, 1) := by decide +kernel
theorem dX12_against_136 : decode cX12_against 136 = .ok (.iload_n 1, 1) := by decide +kernel
theorem dX12_against_137 : decode cX12_against 137 = .ok (.invokevirtual 97, 3) := by decide +kernel
theorem dX12_against_140 : decode cX12_against 140 = .ok (.iaload, 1) := by decide +kernel
theorem dX12_against_141 : decode cX12_against 141 = .ok (.iload_n 1, 1) := by decide +kernel
theorem dX12_against_142 : decode cX12_against 142 = .ok (.if_icmp .ne 5, 3) := by decide +kernel
theorem dX12_against_145 : decode cX12_against 145 = .ok (.iconst 0, 1) := by decide +kernel
theorem dX12_against_146 : decode cX12_against 146 = .ok (.ireturn, 1) := by decide +kernel
theorem dX12_against_147 : decode cX12_against 147 = .ok (.aload_n 0, 1) := by decide +kernel
theorem dX12_against_148 : decode cX12_against 148 = .ok (.iload_n 3, 1) := by decide +kernel
theorem dX12_against_149 : decode cX12_against 149 = .ok (.iload_n 1, 1) := by decide +kernel
theorem dX12_against_150 : decode cX12_against 150 = .ok (.invokevirtual 218, 3) := by decide +kernel
theorem dX12_against_153 : decode cX12_against 153 = .ok (.ifCond .eq 8, 3) := by decide +kernel
theorem dX12_against_156 : decode cX12_against 156 = .ok (.bipush 7, 2) := by decide +kernel
theorem dX12_against_158 : decode cX12_against 158 = .ok (.goto 5, 3) := by decide +kernel
theorem dX12_against_161 : decode cX12_against 161 = .ok (.bipush 6, 2) := by decide +kernel
theorem dX12_against_163 : decode cX12_against 163 = .ok (.ireturn, 1) := by decide +kernel
theorem dX12_lock_0 : decode cX12_lock 0 = .ok (.aload_n 0, 1) := by decide +kernel
theorem dX12_lock_1 : decode cX12_lock 1 = .ok (.invokevirtual 209, 3) := by decide +kernel
theorem dX12_lock_4 : decode cX12_lock 4 = .ok (.aload_n 0, 1) := by decide +kernel
theorem dX12_lock_5 : decode cX12_lock 5 = .ok (.aload_n 0, 1) := by decide +kernel
theorem dX12_lock_6 : decode cX12_lock 6 = .ok (.getfield 181, 3) := by decide +kernel
theorem dX12_lock_9 : decode cX12_lock 9 = .ok (.ifCond .ne 7, 3) := by decide +kernel
theorem dX12_lock_12 : decode cX12_lock 12 = .ok (.iconst 1, 1) := by decide +kernel
theorem dX12_lock_13 : decode cX12_lock 13 = .ok (.goto 4, 3) := by decide +kernel
theorem dX12_lock_16 : decode cX12_lock 16 = .ok (.iconst 0, 1) := by decide +kernel
theorem dX12_lock_17 : decode cX12_lock 17 = .ok (.invokevirtual 101, 3) := by decide +kernel
theorem dX12_lock_20 : decode cX12_lock 20 = .ok (.ifCond .ne 5, 3) := by decide +kernel
theorem dX12_lock_23 : decode cX12_lock 23 = .ok (.iconst 0, 1) := by decide +kernel
theorem dX12_lock_24 : decode cX12_lock 24 = .ok (.ireturn, 1) := by decide +kernel
theorem dX12_lock_25 : decode cX12_lock 25 = .ok (.iconst 0, 1) := by decide +kernel
theorem dX12_lock_26 : decode cX12_lock 26 = .ok (.istore_n 1, 1) := by decide +kernel
theorem dX12_lock_27 : decode cX12_lock 27 = .ok (.iconst 0, 1) := by decide +kernel
theorem dX12_lock_28 : decode cX12_lock 28 = .ok (.istore_n 2, 1) := by decide +kernel
theorem dX12_lock_29 : decode cX12_lock 29 = .ok (.iload_n 2, 1) := by decide +kernel
theorem dX12_lock_30 : decode cX12_lock 30 = .ok (.bipush 6, 2) := by decide +kernel
theorem dX12_lock_32 : decode cX12_lock 32 = .ok (.if_icmp .ge 44, 3) := by decide +kernel
theorem dX12_lock_35 : decode cX12_lock 35 = .ok (.iload_n 1, 1) := by decide +kernel
theorem dX12_lock_36 : decode cX12_lock 36 = .ok (.aload_n 0, 1) := by decide +kernel
theorem dX12_lock_37 : decode cX12_lock 37 = .ok (.getfield 35, 3) := by decide +kernel
theorem dX12_lock_40 : decode cX12_lock 40 = .ok (.iload_n 2, 1) := by decide +kernel
theorem dX12_lock_41 : decode cX12_lock 41 = .ok (.iaload, 1) := by decide +kernel
theorem dX12_lock_42 : decode cX12_lock 42 = .ok (.aload_n 0, 1) := by decide +kernel
theorem dX12_lock_43 : decode cX12_lock 43 = .ok (.getfield 66, 3) := by decide +kernel
theorem dX12_lock_46 : decode cX12_lock 46 = .ok (.iload_n 2, 1) := by decide +kernel
theorem dX12_lock_47 : decode cX12_lock 47 = .ok (.iaload, 1) := by decide +kernel
theorem dX12_lock_48 : decode cX12_lock 48 = .ok (.if_icmp .ne 7, 3) := by decide +kernel
theorem dX12_lock_51 : decode cX12_lock 51 = .ok (.iconst 0, 1) := by decide +kernel
theorem dX12_lock_52 : decode cX12_lock 52 = .ok (.goto 4, 3) := by decide +kernel
theorem dX12_lock_55 : decode cX12_lock 55 = .ok (.iconst 1, 1) := by decide +kernel
theorem dX12_lock_56 : decode cX12_lock 56 = .ok (.iadd, 1) := by decide +kernel
theorem dX12_lock_57 : decode cX12_lock 57 = .ok (.istore_n 1, 1) := by decide +kernel
theorem dX12_lock_58 : decode cX12_lock 58 = .ok (.aload_n 0, 1) := by decide +kernel
theorem dX12_lock_59 : decode cX12_lock 59 = .ok (.getfield 35, 3) := by decide +kernel
theorem dX12_lock_62 : decode cX12_lock 62 = .ok (.iload_n 2, 1) := by decide +kernel
theorem dX12_lock_63 : decode cX12_lock 63 = .ok (.aload_n 0, 1) := by decide +kernel
theorem dX12_lock_64 : decode cX12_lock 64 = .ok (.getfield 66, 3) := by decide +kernel
theorem dX12_lock_67 : decode cX12_lock 67 = .ok (.iload_n 2, 1) := by decide +kernel
theorem dX12_lock_68 : decode cX12_lock 68 = .ok (.iaload, 1) := by decide +kernel
theorem dX12_lock_69 : decode cX12_lock 69 = .ok (.iastore, 1) := by decide +kernel
theorem dX12_lock_70 : decode cX12_lock 70 = .ok (.iinc 2 1, 3) := by decide +kernel
theorem dX12_lock_73 : decode cX12_lock 73 = .ok (.goto (-44), 3) := by decide +kernel
theorem dX12_lock_76 : decode cX12_lock 76 = .ok (.aload_n 0, 1) := by decide +kernel
theorem dX12_lock_77 : decode cX12_lock 77 = .ok (.iconst 0, 1) := by decide +kernel
theorem dX12_lock_78 : decode cX12_lock 78 = .ok (.putfield 104, 3) := by decide +kernel
theorem dX12_lock_81 : decode cX12_lock 81 = .ok (.iload_n 1, 1) := by decide +kernel
theorem dX12_lock_82 : decode cX12_lock 82 = .ok (.ireturn, 1) := by decide +kernel
theorem dX12_unlock_0 : decode cX12_unlock 0 = .ok (.aload_n 0, 1) := by decide +kernel
theorem dX12_unlock_1 : decode cX12_unlock 1 = .ok (.iload_n 1, 1) := by decide +kernel
theorem dX12_unlock_2 : decode cX12_unlock 2 = .ok (.invokestatic 93, 3) := by decide +kernel
theorem dX12_unlock_5 : decode cX12_unlock 5 = .ok (.ifCond .eq 7, 3) := by decide +kernel
theorem dX12_unlock_8 : decode cX12_unlock 8 = .ok (.iconst 0, 1) := by decide +kernel
theorem dX12_unlock_9 : decode cX12_unlock 9 = .ok (.goto 4, 3) := by decide +kernel
theorem dX12_unlock_12 : decode cX12_unlock 12 = .ok (.iconst 1, 1) := by decide +kernel
theorem dX12_unlock_13 : decode cX12_unlock 13 = .ok (.invokevirtual 101, 3) := by decide +kernel
theorem dX12_unlock_16 : decode cX12_unlock 16 = .ok (.ifCond .ne 5, 3) := by decide +kernel
theorem dX12_unlock_19 : decode cX12_unlock 19 = .ok (.iconst 0, 1) := by decide +kernel
theorem dX12_unlock_20 : decode cX12_unlock 20 = .ok (.ireturn, 1) := by decide +kernel
theorem dX12_unlock_21 : decode cX12_unlock 21 = .ok (.aload_n 0, 1) := by decide +kernel
theorem dX12_unlock_22 : decode cX12_unlock 22 = .ok (.getfield 35, 3) := by decide +kernel
theorem dX12_unlock_25 : decode cX12_unlock 25 = .ok (.iload_n 1, 1) := by decide +kernel
theorem dX12_unlock_26 : decode cX12_unlock 26 = .ok (.iaload, 1) := by decide +kernel
theorem dX12_unlock_27 : decode cX12_unlock 27 = .ok (.istore_n 2, 1) := by decide +kernel
theorem dX12_unlock_28 : decode cX12_unlock 28 = .ok (.aload_n 0, 1) := by decide +kernel
theorem dX12_unlock_29 : decode cX12_unlock 29 = .ok (.getfield 35, 3) := by decide +kernel
theorem dX12_unlock_32 : decode cX12_unlock 32 = .ok (.iload_n 1, 1) := by decide +kernel
theorem dX12_unlock_33 : decode cX12_unlock 33 = .ok (.iconst (-1), 1) := by decide +kernel
theorem dX12_unlock_34 : decode cX12_unlock 34 = .ok (.iastore, 1) := by decide +kernel
theorem dX12_unlock_35 : decode cX12_unlock 35 = .ok (.aload_n 0, 1) := by decide +kernel
theorem dX12_unlock_36 : decode cX12_unlock 36 = .ok (.iconst 0, 1) := by decide +kernel
theorem dX12_unlock_37 : decode cX12_unlock 37 = .ok (.putfield 104, 3) := by decide +kernel
theorem dX12_unlock_40 : decode cX12_unlock 40 = .ok (.iload_n 2, 1) := by decide +kernel
theorem dX12_unlock_41 : decode cX12_unlock 41 = .ok (.ireturn, 1) := by decide +kernel
theorem dX12_sumOf_0 : decode cX12_sumOf 0 = .ok (.bipush 9, 2) := by decide +kernel
theorem dX12_sumOf_2 : decode cX12_sumOf 2 = .ok (.iload_n 1, 1) := by decide +kernel
theorem dX12_sumOf_3 : decode cX12_sumOf 3 = .ok (.imul, 1) := by decide +kernel
theorem dX12_sumOf_4 : decode cX12_sumOf 4 = .ok (.istore_n 2, 1) := by decide +kernel
theorem dX12_sumOf_5 : decode cX12_sumOf 5 = .ok (.bipush 31, 2) := by decide +kernel
theorem dX12_sumOf_7 : decode cX12_sumOf 7 = .ok (.iload_n 1, 1) := by decide +kernel
theorem dX12_sumOf_8 : decode cX12_sumOf 8 = .ok (.imul, 1) := by decide +kernel
theorem dX12_sumOf_9 : decode cX12_sumOf 9 = .ok (.bipush 7, 2) := by decide +kernel
theorem dX12_sumOf_11 : decode cX12_sumOf 11 = .ok (.aload_n 0, 1) := by decide +kernel
theorem dX12_sumOf_12 : decode cX12_sumOf 12 = .ok (.getfield 7, 3) := by decide +kernel
theorem dX12_sumOf_15 : decode cX12_sumOf 15 = .ok (.iload_n 2, 1) := by decide +kernel
theorem dX12_sumOf_16 : decode cX12_sumOf 16 = .ok (.iconst 1, 1) := by decide +kernel
theorem dX12_sumOf_17 : decode cX12_sumOf 17 = .ok (.iadd, 1) := by decide +kernel
theorem dX12_sumOf_18 : decode cX12_sumOf 18 = .ok (.iaload, 1) := by decide +kernel
theorem dX12_sumOf_19 : decode cX12_sumOf 19 = .ok (.imul, 1) := by decide +kernel
theorem dX12_sumOf_20 : decode cX12_sumOf 20 = .ok (.iadd, 1) := by decide +kernel
theorem dX12_sumOf_21 : decode cX12_sumOf 21 = .ok (.iconst 5, 1) := by decide +kernel
theorem dX12_sumOf_22 : decode cX12_sumOf 22 = .ok (.aload_n 0, 1) := by decide +kernel
theorem dX12_sumOf_23 : decode cX12_sumOf 23 = .ok (.getfield 7, 3) := by decide +kernel
theorem dX12_sumOf_26 : decode cX12_sumOf 26 = .ok (.iload_n 2, 1) := by decide +kernel
theorem dX12_sumOf_27 : decode cX12_sumOf 27 = .ok (.iconst 2, 1) := by decide +kernel
theorem dX12_sumOf_28 : decode cX12_sumOf 28 = .ok (.iadd, 1) := by decide +kernel
theorem dX12_sumOf_29 : decode cX12_sumOf 29 = .ok (.iaload, 1) := by decide +kernel
theorem dX12_sumOf_30 : decode cX12_sumOf 30 = .ok (.imul, 1) := by decide +kernel
theorem dX12_sumOf_31 : decode cX12_sumOf 31 = .ok (.iadd, 1) := by decide +kernel
theorem dX12_sumOf_32 : decode cX12_sumOf 32 = .ok (.iconst 3, 1) := by decide +kernel
theorem dX12_sumOf_33 : decode cX12_sumOf 33 = .ok (.aload_n 0, 1) := by decide +kernel
theorem dX12_sumOf_34 : decode cX12_sumOf 34 = .ok (.getfield 7, 3) := by decide +kernel
theorem dX12_sumOf_37 : decode cX12_sumOf 37 = .ok (.iload_n 2, 1) := by decide +kernel
theorem dX12_sumOf_38 : decode cX12_sumOf 38 = .ok (.iconst 3, 1) := by decide +kernel
theorem dX12_sumOf_39 : decode cX12_sumOf 39 = .ok (.iadd, 1) := by decide +kernel
theorem dX12_sumOf_40 : decode cX12_sumOf 40 = .ok (.iaload, 1) := by decide +kernel
theorem dX12_sumOf_41 : decode cX12_sumOf 41 = .ok (.imul, 1) := by decide +kernel
theorem dX12_sumOf_42 : decode cX12_sumOf 42 = .ok (.iadd, 1) := by decide +kernel
theorem dX12_sumOf_43 : decode cX12_sumOf 43 = .ok (.aload_n 0, 1) := by decide +kernel
theorem dX12_sumOf_44 : decode cX12_sumOf 44 = .ok (.getfield 7, 3) := by decide +kernel
theorem dX12_sumOf_47 : decode cX12_sumOf 47 = .ok (.iload_n 2, 1) := by decide +kernel
theorem dX12_sumOf_48 : decode cX12_sumOf 48 = .ok (.iconst 4, 1) := by decide +kernel
theorem dX12_sumOf_49 : decode cX12_sumOf 49 = .ok (.iadd, 1) := by decide +kernel
theorem dX12_sumOf_50 : decode cX12_sumOf 50 = .ok (.iaload, 1) := by decide +kernel
theorem dX12_sumOf_51 : decode cX12_sumOf 51 = .ok (.iadd, 1) := by decide +kernel
theorem dX12_sumOf_52 : decode cX12_sumOf 52 = .ok (.iconst 1, 1) := by decide +kernel
theorem dX12_sumOf_53 : decode cX12_sumOf 53 = .ok (.iadd, 1) := by decide +kernel
theorem dX12_sumOf_54 : decode cX12_sumOf 54 = .ok (.sipush 9973, 3) := by decide +kernel
theorem dX12_sumOf_57 : decode cX12_sumOf 57 = .ok (.irem, 1) := by decide +kernel
theorem dX12_sumOf_58 : decode cX12_sumOf 58 = .ok (.ireturn, 1) := by decide +kernel
theorem dX12_isRightOnDisk_0 : decode cX12_isRightOnDisk 0 = .ok (.aload_n 0, 1) := by decide +kernel
theorem dX12_isRightOnDisk_1 : decode cX12_isRightOnDisk 1 = .ok (.getfield 38, 3) := by decide +kernel
theorem dX12_isRightOnDisk_4 : decode cX12_isRightOnDisk 4 = .ok (.iload_n 1, 1) := by decide +kernel
theorem dX12_isRightOnDisk_5 : decode cX12_isRightOnDisk 5 = .ok (.iaload, 1) := by decide +kernel
theorem dX12_isRightOnDisk_6 : decode cX12_isRightOnDisk 6 = .ok (.aload_n 0, 1) := by decide +kernel
theorem dX12_isRightOnDisk_7 : decode cX12_isRightOnDisk 7 = .ok (.getfield 66, 3) := by decide +kernel
theorem dX12_isRightOnDisk_10 : decode cX12_isRightOnDisk 10 = .ok (.iload_n 1, 1) := by decide +kernel
theorem dX12_isRightOnDisk_11 : decode cX12_isRightOnDisk 11 = .ok (.iaload, 1) := by decide +kernel
theorem dX12_isRightOnDisk_12 : decode cX12_isRightOnDisk 12 = .ok (.if_icmp .ne 36, 3) := by decide +kernel
theorem dX12_isRightOnDisk_15 : decode cX12_isRightOnDisk 15 = .ok (.aload_n 0, 1) := by decide +kernel
theorem dX12_isRightOnDisk_16 : decode cX12_isRightOnDisk 16 = .ok (.getfield 66, 3) := by decide +kernel
theorem dX12_isRightOnDisk_19 : decode cX12_isRightOnDisk 19 = .ok (.iload_n 1, 1) := by decide +kernel
theorem dX12_isRightOnDisk_20 : decode cX12_isRightOnDisk 20 = .ok (.iaload, 1) := by decide +kernel
theorem dX12_isRightOnDisk_21 : decode cX12_isRightOnDisk 21 = .ok (.iconst (-1), 1) := by decide +kernel
theorem dX12_isRightOnDisk_22 : decode cX12_isRightOnDisk 22 = .ok (.if_icmp .eq 22, 3) := by decide +kernel
theorem dX12_isRightOnDisk_25 : decode cX12_isRightOnDisk 25 = .ok (.aload_n 0, 1) := by decide +kernel
theorem dX12_isRightOnDisk_26 : decode cX12_isRightOnDisk 26 = .ok (.getfield 41, 3) := by decide +kernel
theorem dX12_isRightOnDisk_29 : decode cX12_isRightOnDisk 29 = .ok (.iload_n 1, 1) := by decide +kernel
theorem dX12_isRightOnDisk_30 : decode cX12_isRightOnDisk 30 = .ok (.iaload, 1) := by decide +kernel
theorem dX12_isRightOnDisk_31 : decode cX12_isRightOnDisk 31 = .ok (.aload_n 0, 1) := by decide +kernel
theorem dX12_isRightOnDisk_32 : decode cX12_isRightOnDisk 32 = .ok (.aload_n 0, 1) := by decide +kernel
theorem dX12_isRightOnDisk_33 : decode cX12_isRightOnDisk 33 = .ok (.getfield 66, 3) := by decide +kernel
theorem dX12_isRightOnDisk_36 : decode cX12_isRightOnDisk 36 = .ok (.iload_n 1, 1) := by decide +kernel
theorem dX12_isRightOnDisk_37 : decode cX12_isRightOnDisk 37 = .ok (.iaload, 1) := by decide +kernel
theorem dX12_isRightOnDisk_38 : decode cX12_isRightOnDisk 38 = .ok (.invokevirtual 221, 3) := by decide +kernel
theorem dX12_isRightOnDisk_41 : decode cX12_isRightOnDisk 41 = .ok (.if_icmp .ne 7, 3) := by decide +kernel
theorem dX12_isRightOnDisk_44 : decode cX12_isRightOnDisk 44 = .ok (.iconst 1, 1) := by decide +kernel
theorem dX12_isRightOnDisk_45 : decode cX12_isRightOnDisk 45 = .ok (.goto 4, 3) := by decide +kernel
theorem dX12_isRightOnDisk_48 : decode cX12_isRightOnDisk 48 = .ok (.iconst 0, 1) := by decide +kernel
theorem dX12_isRightOnDisk_49 : decode cX12_isRightOnDisk 49 = .ok (.ireturn, 1) := by decide +kernel
theorem dX12_install_0 : decode cX12_install 0 = .ok (.aload_n 0, 1) := by decide +kernel
theorem dX12_install_1 : decode cX12_install 1 = .ok (.invokevirtual 209, 3) := by decide +kernel
theorem dX12_install_4 : decode cX12_install 4 = .ok (.aload_n 0, 1) := by decide +kernel
theorem dX12_install_5 : decode cX12_install 5 = .ok (.iload_n 1, 1) := by decide +kernel
theorem dX12_install_6 : decode cX12_install 6 = .ok (.iconst 1, 1) := by decide +kernel
theorem dX12_install_7 : decode cX12_install 7 = .ok (.bipush 10, 2) := by decide +kernel
theorem dX12_install_9 : decode cX12_install 9 = .ok (.invokestatic 75, 3) := by decide +kernel
theorem dX12_install_12 : decode cX12_install 12 = .ok (.ifCond .ne 7, 3) := by decide +kernel
theorem dX12_install_15 : decode cX12_install 15 = .ok (.iconst 1, 1) := by decide +kernel
theorem dX12_install_16 : decode cX12_install 16 = .ok (.goto 15, 3) := by decide +kernel
theorem dX12_install_19 : decode cX12_install 19 = .ok (.aload_n 0, 1) := by decide +kernel
theorem dX12_install_20 : decode cX12_install 20 = .ok (.getfield 181, 3) := by decide +kernel
theorem dX12_install_23 : decode cX12_install 23 = .ok (.ifCond .ne 7, 3) := by decide +kernel
theorem dX12_install_26 : decode cX12_install 26 = .ok (.iconst 2, 1) := by decide +kernel
theorem dX12_install_27 : decode cX12_install 27 = .ok (.goto 4, 3) := by decide +kernel
theorem dX12_install_30 : decode cX12_install 30 = .ok (.iconst 0, 1) := by decide +kernel
theorem dX12_install_31 : decode cX12_install 31 = .ok (.invokevirtual 101, 3) := by decide +kernel
theorem dX12_install_34 : decode cX12_install 34 = .ok (.ifCond .ne 5, 3) := by decide +kernel
theorem dX12_install_37 : decode cX12_install 37 = .ok (.iconst 0, 1) := by decide +kernel
theorem dX12_install_38 : decode cX12_install 38 = .ok (.ireturn, 1) := by decide +kernel
theorem dX12_install_39 : decode cX12_install 39 = .ok (.iconst 0, 1) := by decide +kernel
theorem dX12_install_40 : decode cX12_install 40 = .ok (.istore_n 2, 1) := by decide +kernel
theorem dX12_install_41 : decode cX12_install 41 = .ok (.iconst 0, 1) := by decide +kernel
theorem dX12_install_42 : decode cX12_install 42 = .ok (.istore_n 3, 1) := by decide +kernel
theorem dX12_install_43 : decode cX12_install 43 = .ok (.iload_n 3, 1) := by decide +kernel
theorem dX12_install_44 : decode cX12_install 44 = .ok (.bipush 6, 2) := by decide +kernel
theorem dX12_install_46 : decode cX12_install 46 = .ok (.if_icmp .ge 67, 3) := by decide +kernel
theorem dX12_install_49 : decode cX12_install 49 = .ok (.iload_n 2, 1) := by decide +kernel
theorem dX12_install_50 : decode cX12_install 50 = .ok (.iload_n 1, 1) := by decide +kernel
theorem dX12_install_51 : decode cX12_install 51 = .ok (.if_icmp .ge 62, 3) := by decide +kernel
theorem dX12_install_54 : decode cX12_install 54 = .ok (.aload_n 0, 1) := by decide +kernel
theorem dX12_install_55 : decode cX12_install 55 = .ok (.iload_n 3, 1) := by decide +kernel
theorem dX12_install_56 : decode cX12_install 56 = .ok (.invokevirtual 224, 3) := by decide +kernel
theorem dX12_install_59 : decode cX12_install 59 = .ok (.ifCond .ne 48, 3) := by decide +kernel
theorem dX12_install_62 : decode cX12_install 62 = .ok (.aload_n 0, 1) := by decide +kernel
theorem dX12_install_63 : decode cX12_install 63 = .ok (.getfield 38, 3) := by decide +kernel
theorem dX12_install_66 : decode cX12_install 66 = .ok (.iload_n 3, 1) := by decide +kernel
theorem dX12_install_67 : decode cX12_install 67 = .ok (.aload_n 0, 1) := by decide +kernel
theorem dX12_install_68 : decode cX12_install 68 = .ok (.getfield 66, 3) := by decide +kernel
theorem dX12_install_71 : decode cX12_install 71 = .ok (.iload_n 3, 1) := by decide +kernel
theorem dX12_install_72 : decode cX12_install 72 = .ok (.iaload, 1) := by decide +kernel
theorem dX12_install_73 : decode cX12_install 73 = .ok (.iastore, 1) := by decide +kernel
theorem dX12_install_74 : decode cX12_install 74 = .ok (.aload_n 0, 1) := by decide +kernel
theorem dX12_install_75 : decode cX12_install 75 = .ok (.getfield 41, 3) := by decide +kernel
theorem dX12_install_78 : decode cX12_install 78 = .ok (.iload_n 3, 1) := by decide +kernel
theorem dX12_install_79 : decode cX12_install 79 = .ok (.aload_n 0, 1) := by decide +kernel
theorem dX12_install_80 : decode cX12_install 80 = .ok (.getfield 66, 3) := by decide +kernel
theorem dX12_install_83 : decode cX12_install 83 = .ok (.iload_n 3, 1) := by decide +kernel
theorem dX12_install_84 : decode cX12_install 84 = .ok (.iaload, 1) := by decide +kernel
theorem dX12_install_85 : decode cX12_install 85 = .ok (.iconst (-1), 1) := by decide +kernel
theorem dX12_install_86 : decode cX12_install 86 = .ok (.if_icmp .ne 7, 3) := by decide +kernel
theorem dX12_install_89 : decode cX12_install 89 = .ok (.iconst 0, 1) := by decide +kernel
theorem dX12_install_90 : decode cX12_install 90 = .ok (.goto 13, 3) := by decide +kernel
theorem dX12_install_93 : decode cX12_install 93 = .ok (.aload_n 0, 1) := by decide +kernel
theorem dX12_install_94 : decode cX12_install 94 = .ok (.aload_n 0, 1) := by decide +kernel
theorem dX12_install_95 : decode cX12_install 95 = .ok (.getfield 66, 3) := by decide +kernel
theorem dX12_install_98 : decode cX12_install 98 = .ok (.iload_n 3, 1) := by decide +kernel
theorem dX12_install_99 : decode cX12_install 99 = .ok (.iaload, 1) := by decide +kernel
theorem dX12_install_100 : decode cX12_install 100 = .ok (.invokevirtual 221, 3) := by decide +kernel
theorem dX12_install_103 : decode cX12_install 103 = .ok (.iastore, 1) := by decide +kernel
theorem dX12_install_104 : decode cX12_install 104 = .ok (.iinc 2 1, 3) := by decide +kernel
theorem dX12_install_107 : decode cX12_install 107 = .ok (.iinc 3 1, 3) := by decide +kernel
theorem dX12_install_110 : decode cX12_install 110 = .ok (.goto (-67), 3) := by decide +kernel
theorem dX12_install_113 : decode cX12_install 113 = .ok (.iload_n 2, 1) := by decide +kernel
theorem dX12_install_114 : decode cX12_install 114 = .ok (.ireturn, 1) := by decide +kernel
theorem dX12_spoil_0 : decode cX12_spoil 0 = .ok (.aload_n 0, 1) := by decide +kernel
theorem dX12_spoil_1 : decode cX12_spoil 1 = .ok (.iload_n 1, 1) := by decide +kernel
theorem dX12_spoil_2 : decode cX12_spoil 2 = .ok (.invokestatic 93, 3) := by decide +kernel
theorem dX12_spoil_5 : decode cX12_spoil 5 = .ok (.ifCond .ne 7, 3) := by decide +kernel
theorem dX12_spoil_8 : decode cX12_spoil 8 = .ok (.iconst 1, 1) := by decide +kernel
theorem dX12_spoil_9 : decode cX12_spoil 9 = .ok (.goto 18, 3) := by decide +kernel
theorem dX12_spoil_12 : decode cX12_spoil 12 = .ok (.aload_n 0, 1) := by decide +kernel
theorem dX12_spoil_13 : decode cX12_spoil 13 = .ok (.getfield 38, 3) := by decide +kernel
theorem dX12_spoil_16 : decode cX12_spoil 16 = .ok (.iload_n 1, 1) := by decide +kernel
theorem dX12_spoil_17 : decode cX12_spoil 17 = .ok (.iaload, 1) := by decide +kernel
theorem dX12_spoil_18 : decode cX12_spoil 18 = .ok (.iconst (-1), 1) := by decide +kernel
theorem dX12_spoil_19 : decode cX12_spoil 19 = .ok (.if_icmp .ne 7, 3) := by decide +kernel
theorem dX12_spoil_22 : decode cX12_spoil 22 = .ok (.iconst 2, 1) := by decide +kernel
theorem dX12_spoil_23 : decode cX12_spoil 23 = .ok (.goto 4, 3) := by decide +kernel
theorem dX12_spoil_26 : decode cX12_spoil 26 = .ok (.iconst 0, 1) := by decide +kernel
theorem dX12_spoil_27 : decode cX12_spoil 27 = .ok (.invokevirtual 101, 3) := by decide +kernel
theorem dX12_spoil_30 : decode cX12_spoil 30 = .ok (.ifCond .ne 5, 3) := by decide +kernel
theorem dX12_spoil_33 : decode cX12_spoil 33 = .ok (.iconst 0, 1) := by decide +kernel
theorem dX12_spoil_34 : decode cX12_spoil 34 = .ok (.ireturn, 1) := by decide +kernel
theorem dX12_spoil_35 : decode cX12_spoil 35 = .ok (.aload_n 0, 1) := by decide +kernel
theorem dX12_spoil_36 : decode cX12_spoil 36 = .ok (.getfield 41, 3) := by decide +kernel
theorem dX12_spoil_39 : decode cX12_spoil 39 = .ok (.iload_n 1, 1) := by decide +kernel
theorem dX12_spoil_40 : decode cX12_spoil 40 = .ok (.dup2, 1) := by decide +kernel
theorem dX12_spoil_41 : decode cX12_spoil 41 = .ok (.iaload, 1) := by decide +kernel
theorem dX12_spoil_42 : decode cX12_spoil 42 = .ok (.iconst 1, 1) := by decide +kernel
theorem dX12_spoil_43 : decode cX12_spoil 43 = .ok (.iadd, 1) := by decide +kernel
theorem dX12_spoil_44 : decode cX12_spoil 44 = .ok (.iastore, 1) := by decide +kernel
theorem dX12_spoil_45 : decode cX12_spoil 45 = .ok (.aload_n 0, 1) := by decide +kernel
theorem dX12_spoil_46 : decode cX12_spoil 46 = .ok (.getfield 41, 3) := by decide +kernel
theorem dX12_spoil_49 : decode cX12_spoil 49 = .ok (.iload_n 1, 1) := by decide +kernel
theorem dX12_spoil_50 : decode cX12_spoil 50 = .ok (.iaload, 1) := by decide +kernel
theorem dX12_spoil_51 : decode cX12_spoil 51 = .ok (.ireturn, 1) := by decide +kernel
theorem dX12_onDisk_0 : decode cX12_onDisk 0 = .ok (.aload_n 0, 1) := by decide +kernel
theorem dX12_onDisk_1 : decode cX12_onDisk 1 = .ok (.iload_n 1, 1) := by decide +kernel
theorem dX12_onDisk_2 : decode cX12_onDisk 2 = .ok (.invokestatic 93, 3) := by decide +kernel
theorem dX12_onDisk_5 : decode cX12_onDisk 5 = .ok (.ifCond .eq 7, 3) := by decide +kernel
theorem dX12_onDisk_8 : decode cX12_onDisk 8 = .ok (.iconst 0, 1) := by decide +kernel
theorem dX12_onDisk_9 : decode cX12_onDisk 9 = .ok (.goto 4, 3) := by decide +kernel
theorem dX12_onDisk_12 : decode cX12_onDisk 12 = .ok (.iconst 1, 1) := by decide +kernel
theorem dX12_onDisk_13 : decode cX12_onDisk 13 = .ok (.invokevirtual 101, 3) := by decide +kernel
theorem dX12_onDisk_16 : decode cX12_onDisk 16 = .ok (.ifCond .eq 33, 3) := by decide +kernel
theorem dX12_onDisk_19 : decode cX12_onDisk 19 = .ok (.aload_n 0, 1) := by decide +kernel
theorem dX12_onDisk_20 : decode cX12_onDisk 20 = .ok (.getfield 38, 3) := by decide +kernel
theorem dX12_onDisk_23 : decode cX12_onDisk 23 = .ok (.iload_n 1, 1) := by decide +kernel
theorem dX12_onDisk_24 : decode cX12_onDisk 24 = .ok (.iaload, 1) := by decide +kernel
theorem dX12_onDisk_25 : decode cX12_onDisk 25 = .ok (.iconst (-1), 1) := by decide +kernel
theorem dX12_onDisk_26 : decode cX12_onDisk 26 = .ok (.if_icmp .eq 23, 3) := by decide +kernel
theorem dX12_onDisk_29 : decode cX12_onDisk 29 = .ok (.sipush 10000, 3) := by decide +kernel
theorem dX12_onDisk_32 : decode cX12_onDisk 32 = .ok (.aload_n 0, 1) := by decide +kernel
theorem dX12_onDisk_33 : decode cX12_onDisk 33 = .ok (.getfield 38, 3) := by decide +kernel
theorem dX12_onDisk_36 : decode cX12_onDisk 36 = .ok (.iload_n 1, 1) := by decide +kernel
theorem dX12_onDisk_37 : decode cX12_onDisk 37 = .ok (.iaload, 1) := by decide +kernel
theorem dX12_onDisk_38 : decode cX12_onDisk 38 = .ok (.imul, 1) := by decide +kernel
theorem dX12_onDisk_39 : decode cX12_onDisk 39 = .ok (.aload_n 0, 1) := by decide +kernel
theorem dX12_onDisk_40 : decode cX12_onDisk 40 = .ok (.getfield 41, 3) := by decide +kernel
theorem dX12_onDisk_43 : decode cX12_onDisk 43 = .ok (.iload_n 1, 1) := by decide +kernel
theorem dX12_onDisk_44 : decode cX12_onDisk 44 = .ok (.iaload, 1) := by decide +kernel
theorem dX12_onDisk_45 : decode cX12_onDisk 45 = .ok (.iadd, 1) := by decide +kernel
theorem dX12_onDisk_46 : decode cX12_onDisk 46 = .ok (.goto 15, 3) := by decide +kernel
theorem dX12_onDisk_49 : decode cX12_onDisk 49 = .ok (.aload_n 0, 1) := by decide +kernel
theorem dX12_onDisk_50 : decode cX12_onDisk 50 = .ok (.getfield 72, 3) := by decide +kernel
theorem dX12_onDisk_53 : decode cX12_onDisk 53 = .ok (.ifCond .ne 7, 3) := by decide +kernel
theorem dX12_onDisk_56 : decode cX12_onDisk 56 = .ok (.iconst (-1), 1) := by decide +kernel
theorem dX12_onDisk_57 : decode cX12_onDisk 57 = .ok (.goto 4, 3) := by decide +kernel
theorem dX12_onDisk_60 : decode cX12_onDisk 60 = .ok (.iconst 0, 1) := by decide +kernel
theorem dX12_onDisk_61 : decode cX12_onDisk 61 = .ok (.ireturn, 1) := by decide +kernel
theorem dX12_pending_0 : decode cX12_pending 0 = .ok (.aload_n 0, 1) := by decide +kernel
theorem dX12_pending_1 : decode cX12_pending 1 = .ok (.iconst 0, 1) := by decide +kernel
theorem dX12_pending_2 : decode cX12_pending 2 = .ok (.putfield 72, 3) := by decide +kernel
theorem dX12_pending_5 : decode cX12_pending 5 = .ok (.aload_n 0, 1) := by decide +kernel
theorem dX12_pending_6 : decode cX12_pending 6 = .ok (.invokevirtual 209, 3) := by decide +kernel
theorem dX12_pending_9 : decode cX12_pending 9 = .ok (.iconst 0, 1) := by decide +kernel
theorem dX12_pending_10 : decode cX12_pending 10 = .ok (.istore_n 1, 1) := by decide +kernel
theorem dX12_pending_11 : decode cX12_pending 11 = .ok (.iconst 0, 1) := by decide +kernel
theorem dX12_pending_12 : decode cX12_pending 12 = .ok (.istore_n 2, 1) := by decide +kernel
theorem dX12_pending_13 : decode cX12_pending 13 = .ok (.iload_n 2, 1) := by decide +kernel
theorem dX12_pending_14 : decode cX12_pending 14 = .ok (.bipush 6, 2) := by decide +kernel
theorem dX12_pending_16 : decode cX12_pending 16 = .ok (.if_icmp .ge 25, 3) := by decide +kernel
theorem dX12_pending_19 : decode cX12_pending 19 = .ok (.iload_n 1, 1) := by decide +kernel
theorem dX12_pending_20 : decode cX12_pending 20 = .ok (.aload_n 0, 1) := by decide +kernel
theorem dX12_pending_21 : decode cX12_pending 21 = .ok (.iload_n 2, 1) := by decide +kernel
theorem dX12_pending_22 : decode cX12_pending 22 = .ok (.invokevirtual 224, 3) := by decide +kernel
theorem dX12_pending_25 : decode cX12_pending 25 = .ok (.ifCond .eq 7, 3) := by decide +kernel
theorem dX12_pending_28 : decode cX12_pending 28 = .ok (.iconst 0, 1) := by decide +kernel
theorem dX12_pending_29 : decode cX12_pending 29 = .ok (.goto 4, 3) := by decide +kernel
theorem dX12_pending_32 : decode cX12_pending 32 = .ok (.iconst 1, 1) := by decide +kernel
theorem dX12_pending_33 : decode cX12_pending 33 = .ok (.iadd, 1) := by decide +kernel
theorem dX12_pending_34 : decode cX12_pending 34 = .ok (.istore_n 1, 1) := by decide +kernel
theorem dX12_pending_35 : decode cX12_pending 35 = .ok (.iinc 2 1, 3) := by decide +kernel
theorem dX12_pending_38 : decode cX12_pending 38 = .ok (.goto (-25), 3) := by decide +kernel
theorem dX12_pending_41 : decode cX12_pending 41 = .ok (.aload_n 0, 1) := by decide +kernel
theorem dX12_pending_42 : decode cX12_pending 42 = .ok (.getfield 181, 3) := by decide +kernel
theorem dX12_pending_45 : decode cX12_pending 45 = .ok (.ifCond .ne 7, 3) := by decide +kernel
theorem dX12_pending_48 : decode cX12_pending 48 = .ok (.iconst (-1), 1) := by decide +kernel
theorem dX12_pending_49 : decode cX12_pending 49 = .ok (.goto 4, 3) := by decide +kernel
theorem dX12_pending_52 : decode cX12_pending 52 = .ok (.iload_n 1, 1) := by decide +kernel
theorem dX12_pending_53 : decode cX12_pending 53 = .ok (.ireturn, 1) := by decide +kernel
end
section
theorem dL_publish_0 : decode cL_publish 0 = .ok (.aload 7, 2) := by decide +kernel
theorem dL_publish_2 : decode cL_publish 2 = .ok (.iconst 0, 1) := by decide +kernel
theorem dL_publish_3 : decode cL_publish 3 = .ok (.aload_n 0, 1) := by decide +kernel
theorem dL_publish_4 : decode cL_publish 4 = .ok (.iload_n 1, 1) := by decide +kernel
theorem dL_publish_5 : decode cL_publish 5 = .ok (.iload_n 2, 1) := by decide +kernel
theorem dL_publish_6 : decode cL_publish 6 = .ok (.iload_n 3, 1) := by decide +kernel
theorem dL_publish_7 : decode cL_publish 7 = .ok (.iload 4, 2) := by decide +kernel
theorem dL_publish_9 : decode cL_publish 9 = .ok (.iload 5, 2) := by decide +kernel
theorem dL_publish_11 : decode cL_publish 11 = .ok (.iload 6, 2) := by decide +kernel
theorem dL_publish_13 : decode cL_publish 13 = .ok (.invokevirtual 7, 3) := by decide +kernel
theorem dL_publish_16 : decode cL_publish 16 = .ok (.i2l, 1) := by decide +kernel
theorem dL_publish_17 : decode cL_publish 17 = .ok (.lastore, 1) := by decide +kernel
theorem dL_publish_18 : decode cL_publish 18 = .ok (.goto 15, 3) := by decide +kernel
theorem dL_publish_21 : decode cL_publish 21 = .ok (.astore 8, 2) := by decide +kernel
theorem dL_publish_23 : decode cL_publish 23 = .ok (.iconst 1, 1) := by decide +kernel
theorem dL_publish_24 : decode cL_publish 24 = .ok (.ireturn, 1) := by decide +kernel
theorem dL_publish_25 : decode cL_publish 25 = .ok (.astore 8, 2) := by decide +kernel
theorem dL_publish_27 : decode cL_publish 27 = .ok (.iconst 2, 1) := by decide +kernel
theorem dL_publish_28 : decode cL_publish 28 = .ok (.ireturn, 1) := by decide +kernel
theorem dL_publish_29 : decode cL_publish 29 = .ok (.astore 8, 2) := by decide +kernel
theorem dL_publish_31 : decode cL_publish 31 = .ok (.iconst 3, 1) := by decide +kernel
theorem dL_publish_32 : decode cL_publish 32 = .ok (.ireturn, 1) := by decide +kernel
theorem dL_publish_33 : decode cL_publish 33 = .ok (.iconst 0, 1) := by decide +kernel
theorem dL_publish_34 : decode cL_publish 34 = .ok (.ireturn, 1) := by decide +kernel
theorem dL_compare_0 : decode cL_compare 0 = .ok (.aload_n 3, 1) := by decide +kernel
theorem dL_compare_1 : decode cL_compare 1 = .ok (.iconst 0, 1) := by decide +kernel
theorem dL_compare_2 : decode cL_compare 2 = .ok (.aload_n 0, 1) := by decide +kernel
theorem dL_compare_3 : decode cL_compare 3 = .ok (.iload_n 1, 1) := by decide +kernel
theorem dL_compare_4 : decode cL_compare 4 = .ok (.iload_n 2, 1) := by decide +kernel
theorem dL_compare_5 : decode cL_compare 5 = .ok (.invokevirtual 19, 3) := by decide +kernel
theorem dL_compare_8 : decode cL_compare 8 = .ok (.i2l, 1) := by decide +kernel
theorem dL_compare_9 : decode cL_compare 9 = .ok (.lastore, 1) := by decide +kernel
theorem dL_compare_10 : decode cL_compare 10 = .ok (.goto 11, 3) := by decide +kernel
theorem dL_compare_13 : decode cL_compare 13 = .ok (.astore 4, 2) := by decide +kernel
theorem dL_compare_15 : decode cL_compare 15 = .ok (.iconst 1, 1) := by decide +kernel
theorem dL_compare_16 : decode cL_compare 16 = .ok (.ireturn, 1) := by decide +kernel
theorem dL_compare_17 : decode cL_compare 17 = .ok (.astore 4, 2) := by decide +kernel
theorem dL_compare_19 : decode cL_compare 19 = .ok (.iconst 2, 1) := by decide +kernel
theorem dL_compare_20 : decode cL_compare 20 = .ok (.ireturn, 1) := by decide +kernel
theorem dL_compare_21 : decode cL_compare 21 = .ok (.iconst 0, 1) := by decide +kernel
theorem dL_compare_22 : decode cL_compare 22 = .ok (.ireturn, 1) := by decide +kernel
theorem dL_yank_0 : decode cL_yank 0 = .ok (.aload_n 2, 1) := by decide +kernel
theorem dL_yank_1 : decode cL_yank 1 = .ok (.iconst 0, 1) := by decide +kernel
theorem dL_yank_2 : decode cL_yank 2 = .ok (.aload_n 0, 1) := by decide +kernel
theorem dL_yank_3 : decode cL_yank 3 = .ok (.iload_n 1, 1) := by decide +kernel
theorem dL_yank_4 : decode cL_yank 4 = .ok (.invokevirtual 23, 3) := by decide +kernel
theorem dL_yank_7 : decode cL_yank 7 = .ok (.ifCond .eq 7, 3) := by decide +kernel
theorem dL_yank_10 : decode cL_yank 10 = .ok (.lconst 1, 1) := by decide +kernel
theorem dL_yank_11 : decode cL_yank 11 = .ok (.goto 4, 3) := by decide +kernel
theorem dL_yank_14 : decode cL_yank 14 = .ok (.lconst 0, 1) := by decide +kernel
theorem dL_yank_15 : decode cL_yank 15 = .ok (.lastore, 1) := by decide +kernel
theorem dL_yank_16 : decode cL_yank 16 = .ok (.goto 6, 3) := by decide +kernel
theorem dL_yank_19 : decode cL_yank 19 = .ok (.astore_n 3, 1) := by decide +kernel
theorem dL_yank_20 : decode cL_yank 20 = .ok (.iconst 1, 1) := by decide +kernel
theorem dL_yank_21 : decode cL_yank 21 = .ok (.ireturn, 1) := by decide +kernel
theorem dL_yank_22 : decode cL_yank 22 = .ok (.iconst 0, 1) := by decide +kernel
theorem dL_yank_23 : decode cL_yank 23 = .ok (.ireturn, 1) := by decide +kernel
theorem dL_setPlatforms_0 : decode cL_setPlatforms 0 = .ok (.aload_n 3, 1) := by decide +kernel
theorem dL_setPlatforms_1 : decode cL_setPlatforms 1 = .ok (.iconst 0, 1) := by decide +kernel
theorem dL_setPlatforms_2 : decode cL_setPlatforms 2 = .ok (.aload_n 0, 1) := by decide +kernel
theorem dL_setPlatforms_3 : decode cL_setPlatforms 3 = .ok (.iload_n 1, 1) := by decide +kernel
theorem dL_setPlatforms_4 : decode cL_setPlatforms 4 = .ok (.iload_n 2, 1) := by decide +kernel
theorem dL_setPlatforms_5 : decode cL_setPlatforms 5 = .ok (.invokevirtual 27, 3) := by decide +kernel
theorem dL_setPlatforms_8 : decode cL_setPlatforms 8 = .ok (.i2l, 1) := by decide +kernel
theorem dL_setPlatforms_9 : decode cL_setPlatforms 9 = .ok (.lastore, 1) := by decide +kernel
theorem dL_setPlatforms_10 : decode cL_setPlatforms 10 = .ok (.goto 11, 3) := by decide +kernel
theorem dL_setPlatforms_13 : decode cL_setPlatforms 13 = .ok (.astore 4, 2) := by decide +kernel
theorem dL_setPlatforms_15 : decode cL_setPlatforms 15 = .ok (.iconst 1, 1) := by decide +kernel
theorem dL_setPlatforms_16 : decode cL_setPlatforms 16 = .ok (.ireturn, 1) := by decide +kernel
theorem dL_setPlatforms_17 : decode cL_setPlatforms 17 = .ok (.astore 4, 2) := by decide +kernel
theorem dL_setPlatforms_19 : decode cL_setPlatforms 19 = .ok (.iconst 2, 1) := by decide +kernel
theorem dL_setPlatforms_20 : decode cL_setPlatforms 20 = .ok (.ireturn, 1) := by decide +kernel
theorem dL_setPlatforms_21 : decode cL_setPlatforms 21 = .ok (.iconst 0, 1) := by decide +kernel
theorem dL_setPlatforms_22 : decode cL_setPlatforms 22 = .ok (.ireturn, 1) := by decide +kernel
theorem dL_bring_0 : decode cL_bring 0 = .ok (.aload 4, 2) := by decide +kernel
theorem dL_bring_2 : decode cL_bring 2 = .ok (.iconst 0, 1) := by decide +kernel
theorem dL_bring_3 : decode cL_bring 3 = .ok (.aload_n 0, 1) := by decide +kernel
theorem dL_bring_4 : decode cL_bring 4 = .ok (.iload_n 1, 1) := by decide +kernel
theorem dL_bring_5 : decode cL_bring 5 = .ok (.iload_n 2, 1) := by decide +kernel
theorem dL_bring_6 : decode cL_bring 6 = .ok (.iload_n 3, 1) := by decide +kernel
theorem dL_bring_7 : decode cL_bring 7 = .ok (.invokevirtual 30, 3) := by decide +kernel
theorem dL_bring_10 : decode cL_bring 10 = .ok (.ifCond .eq 7, 3) := by decide +kernel
theorem dL_bring_13 : decode cL_bring 13 = .ok (.lconst 1, 1) := by decide +kernel
theorem dL_bring_14 : decode cL_bring 14 = .ok (.goto 4, 3) := by decide +kernel
theorem dL_bring_17 : decode cL_bring 17 = .ok (.lconst 0, 1) := by decide +kernel
theorem dL_bring_18 : decode cL_bring 18 = .ok (.lastore, 1) := by decide +kernel
theorem dL_bring_19 : decode cL_bring 19 = .ok (.goto 7, 3) := by decide +kernel
theorem dL_bring_22 : decode cL_bring 22 = .ok (.astore 5, 2) := by decide +kernel
theorem dL_bring_24 : decode cL_bring 24 = .ok (.iconst 1, 1) := by decide +kernel
theorem dL_bring_25 : decode cL_bring 25 = .ok (.ireturn, 1) := by decide +kernel
theorem dL_bring_26 : decode cL_bring 26 = .ok (.iconst 0, 1) := by decide +kernel
theorem dL_bring_27 : decode cL_bring 27 = .ok (.ireturn, 1) := by decide +kernel
theorem dL_range_0 : decode cL_range 0 = .ok (.aload 6, 2) := by decide +kernel
theorem dL_range_2 : decode cL_range 2 = .ok (.iconst 0, 1) := by decide +kernel
theorem dL_range_3 : decode cL_range 3 = .ok (.aload_n 0, 1) := by decide +kernel
theorem dL_range_4 : decode cL_range 4 = .ok (.iload_n 1, 1) := by decide +kernel
theorem dL_range_5 : decode cL_range 5 = .ok (.iload_n 2, 1) := by decide +kernel
theorem dL_range_6 : decode cL_range 6 = .ok (.iload_n 3, 1) := by decide +kernel
theorem dL_range_7 : decode cL_range 7 = .ok (.iload 4, 2) := by decide +kernel
theorem dL_range_9 : decode cL_range 9 = .ok (.iload 5, 2) := by decide +kernel
theorem dL_range_11 : decode cL_range 11 = .ok (.invokevirtual 34, 3) := by decide +kernel
theorem dL_range_14 : decode cL_range 14 = .ok (.i2l, 1) := by decide +kernel
theorem dL_range_15 : decode cL_range 15 = .ok (.lastore, 1) := by decide +kernel
theorem dL_range_16 : decode cL_range 16 = .ok (.goto 15, 3) := by decide +kernel
theorem dL_range_19 : decode cL_range 19 = .ok (.astore 7, 2) := by decide +kernel
theorem dL_range_21 : decode cL_range 21 = .ok (.iconst 1, 1) := by decide +kernel
theorem dL_range_22 : decode cL_range 22 = .ok (.ireturn, 1) := by decide +kernel
theorem dL_range_23 : decode cL_range 23 = .ok (.astore 7, 2) := by decide +kernel
theorem dL_range_25 : decode cL_range 25 = .ok (.iconst 2, 1) := by decide +kernel
theorem dL_range_26 : decode cL_range 26 = .ok (.ireturn, 1) := by decide +kernel
theorem dL_range_27 : decode cL_range 27 = .ok (.astore 7, 2) := by decide +kernel
theorem dL_range_29 : decode cL_range 29 = .ok (.iconst 3, 1) := by decide +kernel
theorem dL_range_30 : decode cL_range 30 = .ok (.ireturn, 1) := by decide +kernel
theorem dL_range_31 : decode cL_range 31 = .ok (.iconst 0, 1) := by decide +kernel
theorem dL_range_32 : decode cL_range 32 = .ok (.ireturn, 1) := by decide +kernel
theorem dL_join_0 : decode cL_join 0 = .ok (.aload 4, 2) := by decide +kernel
theorem dL_join_2 : decode cL_join 2 = .ok (.iconst 0, 1) := by decide +kernel
theorem dL_join_3 : decode cL_join 3 = .ok (.aload_n 0, 1) := by decide +kernel
theorem dL_join_4 : decode cL_join 4 = .ok (.iload_n 1, 1) := by decide +kernel
theorem dL_join_5 : decode cL_join 5 = .ok (.iload_n 2, 1) := by decide +kernel
theorem dL_join_6 : decode cL_join 6 = .ok (.iload_n 3, 1) := by decide +kernel
theorem dL_join_7 : decode cL_join 7 = .ok (.invokevirtual 38, 3) := by decide +kernel
theorem dL_join_10 : decode cL_join 10 = .ok (.i2l, 1) := by decide +kernel
theorem dL_join_11 : decode cL_join 11 = .ok (.lastore, 1) := by decide +kernel
theorem dL_join_12 : decode cL_join 12 = .ok (.goto 11, 3) := by decide +kernel
theorem dL_join_15 : decode cL_join 15 = .ok (.astore 5, 2) := by decide +kernel
theorem dL_join_17 : decode cL_join 17 = .ok (.iconst 1, 1) := by decide +kernel
theorem dL_join_18 : decode cL_join 18 = .ok (.ireturn, 1) := by decide +kernel
theorem dL_join_19 : decode cL_join 19 = .ok (.astore 5, 2) := by decide +kernel
theorem dL_join_21 : decode cL_join 21 = .ok (.iconst 2, 1) := by decide +kernel
theorem dL_join_22 : decode cL_join 22 = .ok (.ireturn, 1) := by decide +kernel
theorem dL_join_23 : decode cL_join 23 = .ok (.iconst 0, 1) := by decide +kernel
theorem dL_join_24 : decode cL_join 24 = .ok (.ireturn, 1) := by decide +kernel
theorem dL_has_0 : decode cL_has 0 = .ok (.aload_n 3, 1) := by decide +kernel
theorem dL_has_1 : decode cL_has 1 = .ok (.iconst 0, 1) := by decide +kernel
theorem dL_has_2 : decode cL_has 2 = .ok (.aload_n 0, 1) := by decide +kernel
theorem dL_has_3 : decode cL_has 3 = .ok (.iload_n 1, 1) := by decide +kernel
theorem dL_has_4 : decode cL_has 4 = .ok (.iload_n 2, 1) := by decide +kernel
theorem dL_has_5 : decode cL_has 5 = .ok (.invokevirtual 42, 3) := by decide +kernel
theorem dL_has_8 : decode cL_has 8 = .ok (.ifCond .eq 7, 3) := by decide +kernel
theorem dL_has_11 : decode cL_has 11 = .ok (.lconst 1, 1) := by decide +kernel
theorem dL_has_12 : decode cL_has 12 = .ok (.goto 4, 3) := by decide +kernel
theorem dL_has_15 : decode cL_has 15 = .ok (.lconst 0, 1) := by decide +kernel
theorem dL_has_16 : decode cL_has 16 = .ok (.lastore, 1) := by decide +kernel
theorem dL_has_17 : decode cL_has 17 = .ok (.goto 7, 3) := by decide +kernel
theorem dL_has_20 : decode cL_has 20 = .ok (.astore 4, 2) := by decide +kernel
theorem dL_has_22 : decode cL_has 22 = .ok (.iconst 1, 1) := by decide +kernel
theorem dL_has_23 : decode cL_has 23 = .ok (.ireturn, 1) := by decide +kernel
theorem dL_has_24 : decode cL_has 24 = .ok (.iconst 0, 1) := by decide +kernel
theorem dL_has_25 : decode cL_has 25 = .ok (.ireturn, 1) := by decide +kernel
theorem dL_need_0 : decode cL_need 0 = .ok (.aload 8, 2) := by decide +kernel
theorem dL_need_2 : decode cL_need 2 = .ok (.iconst 0, 1) := by decide +kernel
theorem dL_need_3 : decode cL_need 3 = .ok (.aload_n 0, 1) := by decide +kernel
theorem dL_need_4 : decode cL_need 4 = .ok (.iload_n 1, 1) := by decide +kernel
theorem dL_need_5 : decode cL_need 5 = .ok (.iload_n 2, 1) := by decide +kernel
theorem dL_need_6 : decode cL_need 6 = .ok (.iload_n 3, 1) := by decide +kernel
theorem dL_need_7 : decode cL_need 7 = .ok (.iload 4, 2) := by decide +kernel
theorem dL_need_9 : decode cL_need 9 = .ok (.iload 5, 2) := by decide +kernel
theorem dL_need_11 : decode cL_need 11 = .ok (.iload 6, 2) := by decide +kernel
theorem dL_need_13 : decode cL_need 13 = .ok (.iload 7, 2) := by decide +kernel
theorem dL_need_15 : decode cL_need 15 = .ok (.invokevirtual 46, 3) := by decide +kernel
theorem dL_need_18 : decode cL_need 18 = .ok (.i2l, 1) := by decide +kernel
theorem dL_need_19 : decode cL_need 19 = .ok (.lastore, 1) := by decide +kernel
theorem dL_need_20 : decode cL_need 20 = .ok (.goto 15, 3) := by decide +kernel
theorem dL_need_23 : decode cL_need 23 = .ok (.astore 9, 2) := by decide +kernel
theorem dL_need_25 : decode cL_need 25 = .ok (.iconst 1, 1) := by decide +kernel
theorem dL_need_26 : decode cL_need 26 = .ok (.ireturn, 1) := by decide +kernel
theorem dL_need_27 : decode cL_need 27 = .ok (.astore 9, 2) := by decide +kernel
theorem dL_need_29 : decode cL_need 29 = .ok (.iconst 2, 1) := by decide +kernel
theorem dL_need_30 : decode cL_need 30 = .ok (.ireturn, 1) := by decide +kernel
theorem dL_need_31 : decode cL_need 31 = .ok (.astore 9, 2) := by decide +kernel
theorem dL_need_33 : decode cL_need 33 = .ok (.iconst 3, 1) := by decide +kernel
theorem dL_need_34 : decode cL_need 34 = .ok (.ireturn, 1) := by decide +kernel
theorem dL_need_35 : decode cL_need 35 = .ok (.iconst 0, 1) := by decide +kernel
theorem dL_need_36 : decode cL_need 36 = .ok (.ireturn, 1) := by decide +kernel
theorem dL_demand_0 : decode cL_demand 0 = .ok (.aload 5, 2) := by decide +kernel
theorem dL_demand_2 : decode cL_demand 2 = .ok (.iconst 0, 1) := by decide +kernel
theorem dL_demand_3 : decode cL_demand 3 = .ok (.aload_n 0, 1) := by decide +kernel
theorem dL_demand_4 : decode cL_demand 4 = .ok (.iload_n 1, 1) := by decide +kernel
theorem dL_demand_5 : decode cL_demand 5 = .ok (.iload_n 2, 1) := by decide +kernel
theorem dL_demand_6 : decode cL_demand 6 = .ok (.iload_n 3, 1) := by decide +kernel
theorem dL_demand_7 : decode cL_demand 7 = .ok (.iload 4, 2) := by decide +kernel
theorem dL_demand_9 : decode cL_demand 9 = .ok (.invokevirtual 50, 3) := by decide +kernel
theorem dL_demand_12 : decode cL_demand 12 = .ok (.i2l, 1) := by decide +kernel
theorem dL_demand_13 : decode cL_demand 13 = .ok (.lastore, 1) := by decide +kernel
theorem dL_demand_14 : decode cL_demand 14 = .ok (.goto 15, 3) := by decide +kernel
theorem dL_demand_17 : decode cL_demand 17 = .ok (.astore 6, 2) := by decide +kernel
theorem dL_demand_19 : decode cL_demand 19 = .ok (.iconst 1, 1) := by decide +kernel
theorem dL_demand_20 : decode cL_demand 20 = .ok (.ireturn, 1) := by decide +kernel
theorem dL_demand_21 : decode cL_demand 21 = .ok (.astore 6, 2) := by decide +kernel
theorem dL_demand_23 : decode cL_demand 23 = .ok (.iconst 2, 1) := by decide +kernel
theorem dL_demand_24 : decode cL_demand 24 = .ok (.ireturn, 1) := by decide +kernel
theorem dL_demand_25 : decode cL_demand 25 = .ok (.astore 6, 2) := by decide +kernel
theorem dL_demand_27 : decode cL_demand 27 = .ok (.iconst 3, 1) := by decide +kernel
theorem dL_demand_28 : decode cL_demand 28 = .ok (.ireturn, 1) := by decide +kernel
theorem dL_demand_29 : decode cL_demand 29 = .ok (.iconst 0, 1) := by decide +kernel
theorem dL_demand_30 : decode cL_demand 30 = .ok (.ireturn, 1) := by decide +kernel
theorem dL_advise_0 : decode cL_advise 0 = .ok (.aload_n 3, 1) := by decide +kernel
theorem dL_advise_1 : decode cL_advise 1 = .ok (.iconst 0, 1) := by decide +kernel
theorem dL_advise_2 : decode cL_advise 2 = .ok (.aload_n 0, 1) := by decide +kernel
theorem dL_advise_3 : decode cL_advise 3 = .ok (.iload_n 1, 1) := by decide +kernel
theorem dL_advise_4 : decode cL_advise 4 = .ok (.iload_n 2, 1) := by decide +kernel
theorem dL_advise_5 : decode cL_advise 5 = .ok (.invokevirtual 54, 3) := by decide +kernel
theorem dL_advise_8 : decode cL_advise 8 = .ok (.i2l, 1) := by decide +kernel
theorem dL_advise_9 : decode cL_advise 9 = .ok (.lastore, 1) := by decide +kernel
theorem dL_advise_10 : decode cL_advise 10 = .ok (.goto 11, 3) := by decide +kernel
theorem dL_advise_13 : decode cL_advise 13 = .ok (.astore 4, 2) := by decide +kernel
theorem dL_advise_15 : decode cL_advise 15 = .ok (.iconst 1, 1) := by decide +kernel
theorem dL_advise_16 : decode cL_advise 16 = .ok (.ireturn, 1) := by decide +kernel
theorem dL_advise_17 : decode cL_advise 17 = .ok (.astore 4, 2) := by decide +kernel
theorem dL_advise_19 : decode cL_advise 19 = .ok (.iconst 2, 1) := by decide +kernel
theorem dL_advise_20 : decode cL_advise 20 = .ok (.ireturn, 1) := by decide +kernel
theorem dL_advise_21 : decode cL_advise 21 = .ok (.iconst 0, 1) := by decide +kernel
theorem dL_advise_22 : decode cL_advise 22 = .ok (.ireturn, 1) := by decide +kernel
theorem dL_mending_0 : decode cL_mending 0 = .ok (.aload_n 2, 1) := by decide +kernel
theorem dL_mending_1 : decode cL_mending 1 = .ok (.iconst 0, 1) := by decide +kernel
theorem dL_mending_2 : decode cL_mending 2 = .ok (.aload_n 0, 1) := by decide +kernel
theorem dL_mending_3 : decode cL_mending 3 = .ok (.iload_n 1, 1) := by decide +kernel
theorem dL_mending_4 : decode cL_mending 4 = .ok (.invokevirtual 57, 3) := by decide +kernel
theorem dL_mending_7 : decode cL_mending 7 = .ok (.i2l, 1) := by decide +kernel
theorem dL_mending_8 : decode cL_mending 8 = .ok (.lastore, 1) := by decide +kernel
theorem dL_mending_9 : decode cL_mending 9 = .ok (.goto 6, 3) := by decide +kernel
theorem dL_mending_12 : decode cL_mending 12 = .ok (.astore_n 3, 1) := by decide +kernel
theorem dL_mending_13 : decode cL_mending 13 = .ok (.iconst 1, 1) := by decide +kernel
theorem dL_mending_14 : decode cL_mending 14 = .ok (.ireturn, 1) := by decide +kernel
theorem dL_mending_15 : decode cL_mending 15 = .ok (.iconst 0, 1) := by decide +kernel
theorem dL_mending_16 : decode cL_mending 16 = .ok (.ireturn, 1) := by decide +kernel
theorem dL_replace_0 : decode cL_replace 0 = .ok (.aload_n 3, 1) := by decide +kernel
theorem dL_replace_1 : decode cL_replace 1 = .ok (.iconst 0, 1) := by decide +kernel
theorem dL_replace_2 : decode cL_replace 2 = .ok (.aload_n 0, 1) := by decide +kernel
theorem dL_replace_3 : decode cL_replace 3 = .ok (.iload_n 1, 1) := by decide +kernel
theorem dL_replace_4 : decode cL_replace 4 = .ok (.iload_n 2, 1) := by decide +kernel
theorem dL_replace_5 : decode cL_replace 5 = .ok (.invokevirtual 61, 3) := by decide +kernel
theorem dL_replace_8 : decode cL_replace 8 = .ok (.i2l, 1) := by decide +kernel
theorem dL_replace_9 : decode cL_replace 9 = .ok (.lastore, 1) := by decide +kernel
theorem dL_replace_10 : decode cL_replace 10 = .ok (.goto 11, 3) := by decide +kernel
theorem dL_replace_13 : decode cL_replace 13 = .ok (.astore 4, 2) := by decide +kernel
theorem dL_replace_15 : decode cL_replace 15 = .ok (.iconst 1, 1) := by decide +kernel
theorem dL_replace_16 : decode cL_replace 16 = .ok (.ireturn, 1) := by decide +kernel
theorem dL_replace_17 : decode cL_replace 17 = .ok (.astore 4, 2) := by decide +kernel
theorem dL_replace_19 : decode cL_replace 19 = .ok (.iconst 2, 1) := by decide +kernel
theorem dL_replace_20 : decode cL_replace 20 = .ok (.ireturn, 1) := by decide +kernel
theorem dL_replace_21 : decode cL_replace 21 = .ok (.iconst 0, 1) := by decide +kernel
theorem dL_replace_22 : decode cL_replace 22 = .ok (.ireturn, 1) := by decide +kernel
theorem dL_setPlatform_0 : decode cL_setPlatform 0 = .ok (.aload_n 2, 1) := by decide +kernel
theorem dL_setPlatform_1 : decode cL_setPlatform 1 = .ok (.iconst 0, 1) := by decide +kernel
theorem dL_setPlatform_2 : decode cL_setPlatform 2 = .ok (.aload_n 0, 1) := by decide +kernel
theorem dL_setPlatform_3 : decode cL_setPlatform 3 = .ok (.iload_n 1, 1) := by decide +kernel
theorem dL_setPlatform_4 : decode cL_setPlatform 4 = .ok (.invokevirtual 64, 3) := by decide +kernel
theorem dL_setPlatform_7 : decode cL_setPlatform 7 = .ok (.i2l, 1) := by decide +kernel
theorem dL_setPlatform_8 : decode cL_setPlatform 8 = .ok (.lastore, 1) := by decide +kernel
theorem dL_setPlatform_9 : decode cL_setPlatform 9 = .ok (.goto 6, 3) := by decide +kernel
theorem dL_setPlatform_12 : decode cL_setPlatform 12 = .ok (.astore_n 3, 1) := by decide +kernel
theorem dL_setPlatform_13 : decode cL_setPlatform 13 = .ok (.iconst 1, 1) := by decide +kernel
theorem dL_setPlatform_14 : decode cL_setPlatform 14 = .ok (.ireturn, 1) := by decide +kernel
theorem dL_setPlatform_15 : decode cL_setPlatform 15 = .ok (.iconst 0, 1) := by decide +kernel
theorem dL_setPlatform_16 : decode cL_setPlatform 16 = .ok (.ireturn, 1) := by decide +kernel
theorem dL_solve_0 : decode cL_solve 0 = .ok (.aload_n 3, 1) := by decide +kernel
theorem dL_solve_1 : decode cL_solve 1 = .ok (.iconst 0, 1) := by decide +kernel
theorem dL_solve_2 : decode cL_solve 2 = .ok (.aload_n 0, 1) := by decide +kernel
theorem dL_solve_3 : decode cL_solve 3 = .ok (.iload_n 1, 1) := by decide +kernel
theorem dL_solve_4 : decode cL_solve 4 = .ok (.iload_n 2, 1) := by decide +kernel
theorem dL_solve_5 : decode cL_solve 5 = .ok (.invokevirtual 67, 3) := by decide +kernel
theorem dL_solve_8 : decode cL_solve 8 = .ok (.i2l, 1) := by decide +kernel
theorem dL_solve_9 : decode cL_solve 9 = .ok (.lastore, 1) := by decide +kernel
theorem dL_solve_10 : decode cL_solve 10 = .ok (.goto 7, 3) := by decide +kernel
theorem dL_solve_13 : decode cL_solve 13 = .ok (.astore 4, 2) := by decide +kernel
theorem dL_solve_15 : decode cL_solve 15 = .ok (.iconst 1, 1) := by decide +kernel
theorem dL_solve_16 : decode cL_solve 16 = .ok (.ireturn, 1) := by decide +kernel
theorem dL_solve_17 : decode cL_solve 17 = .ok (.iconst 0, 1) := by decide +kernel
theorem dL_solve_18 : decode cL_solve 18 = .ok (.ireturn, 1) := by decide +kernel
theorem dL_chosen_0 : decode cL_chosen 0 = .ok (.aload_n 2, 1) := by decide +kernel
theorem dL_chosen_1 : decode cL_chosen 1 = .ok (.iconst 0, 1) := by decide +kernel
theorem dL_chosen_2 : decode cL_chosen 2 = .ok (.aload_n 0, 1) := by decide +kernel
theorem dL_chosen_3 : decode cL_chosen 3 = .ok (.iload_n 1, 1) := by decide +kernel
theorem dL_chosen_4 : decode cL_chosen 4 = .ok (.invokevirtual 70, 3) := by decide +kernel
theorem dL_chosen_7 : decode cL_chosen 7 = .ok (.i2l, 1) := by decide +kernel
theorem dL_chosen_8 : decode cL_chosen 8 = .ok (.lastore, 1) := by decide +kernel
theorem dL_chosen_9 : decode cL_chosen 9 = .ok (.goto 6, 3) := by decide +kernel
theorem dL_chosen_12 : decode cL_chosen 12 = .ok (.astore_n 3, 1) := by decide +kernel
theorem dL_chosen_13 : decode cL_chosen 13 = .ok (.iconst 1, 1) := by decide +kernel
theorem dL_chosen_14 : decode cL_chosen 14 = .ok (.ireturn, 1) := by decide +kernel
theorem dL_chosen_15 : decode cL_chosen 15 = .ok (.iconst 0, 1) := by decide +kernel
theorem dL_chosen_16 : decode cL_chosen 16 = .ok (.ireturn, 1) := by decide +kernel
theorem dL_chosenAnew_0 : decode cL_chosenAnew 0 = .ok (.aload_n 2, 1) := by decide +kernel
theorem dL_chosenAnew_1 : decode cL_chosenAnew 1 = .ok (.iconst 0, 1) := by decide +kernel
theorem dL_chosenAnew_2 : decode cL_chosenAnew 2 = .ok (.aload_n 0, 1) := by decide +kernel
theorem dL_chosenAnew_3 : decode cL_chosenAnew 3 = .ok (.iload_n 1, 1) := by decide +kernel
theorem dL_chosenAnew_4 : decode cL_chosenAnew 4 = .ok (.invokevirtual 73, 3) := by decide +kernel
theorem dL_chosenAnew_7 : decode cL_chosenAnew 7 = .ok (.i2l, 1) := by decide +kernel
theorem dL_chosenAnew_8 : decode cL_chosenAnew 8 = .ok (.lastore, 1) := by decide +kernel
theorem dL_chosenAnew_9 : decode cL_chosenAnew 9 = .ok (.goto 6, 3) := by decide +kernel
theorem dL_chosenAnew_12 : decode cL_chosenAnew 12 = .ok (.astore_n 3, 1) := by decide +kernel
theorem dL_chosenAnew_13 : decode cL_chosenAnew 13 = .ok (.iconst 1, 1) := by decide +kernel
theorem dL_chosenAnew_14 : decode cL_chosenAnew 14 = .ok (.ireturn, 1) := by decide +kernel
theorem dL_chosenAnew_15 : decode cL_chosenAnew 15 = .ok (.iconst 0, 1) := by decide +kernel
theorem dL_chosenAnew_16 : decode cL_chosenAnew 16 = .ok (.ireturn, 1) := by decide +kernel
theorem dL_features_0 : decode cL_features 0 = .ok (.aload_n 2, 1) := by decide +kernel
theorem dL_features_1 : decode cL_features 1 = .ok (.iconst 0, 1) := by decide +kernel
theorem dL_features_2 : decode cL_features 2 = .ok (.aload_n 0, 1) := by decide +kernel
theorem dL_features_3 : decode cL_features 3 = .ok (.iload_n 1, 1) := by decide +kernel
theorem dL_features_4 : decode cL_features 4 = .ok (.invokevirtual 76, 3) := by decide +kernel
theorem dL_features_7 : decode cL_features 7 = .ok (.i2l, 1) := by decide +kernel
theorem dL_features_8 : decode cL_features 8 = .ok (.lastore, 1) := by decide +kernel
theorem dL_features_9 : decode cL_features 9 = .ok (.goto 6, 3) := by decide +kernel
theorem dL_features_12 : decode cL_features 12 = .ok (.astore_n 3, 1) := by decide +kernel
theorem dL_features_13 : decode cL_features 13 = .ok (.iconst 1, 1) := by decide +kernel
theorem dL_features_14 : decode cL_features 14 = .ok (.ireturn, 1) := by decide +kernel
theorem dL_features_15 : decode cL_features 15 = .ok (.iconst 0, 1) := by decide +kernel
theorem dL_features_16 : decode cL_features 16 = .ok (.ireturn, 1) := by decide +kernel
theorem dL_against_0 : decode cL_against 0 = .ok (.aload_n 2, 1) := by decide +kernel
theorem dL_against_1 : decode cL_against 1 = .ok (.iconst 0, 1) := by decide +kernel
theorem dL_against_2 : decode cL_against 2 = .ok (.aload_n 0, 1) := by decide +kernel
theorem dL_against_3 : decode cL_against 3 = .ok (.iload_n 1, 1) := by decide +kernel
theorem dL_against_4 : decode cL_against 4 = .ok (.invokevirtual 79, 3) := by decide +kernel
theorem dL_against_7 : decode cL_against 7 = .ok (.i2l, 1) := by decide +kernel
theorem dL_against_8 : decode cL_against 8 = .ok (.lastore, 1) := by decide +kernel
theorem dL_against_9 : decode cL_against 9 = .ok (.goto 6, 3) := by decide +kernel
theorem dL_against_12 : decode cL_against 12 = .ok (.astore_n 3, 1) := by decide +kernel
theorem dL_against_13 : decode cL_against 13 = .ok (.iconst 1, 1) := by decide +kernel
theorem dL_against_14 : decode cL_against 14 = .ok (.ireturn, 1) := by decide +kernel
theorem dL_against_15 : decode cL_against 15 = .ok (.iconst 0, 1) := by decide +kernel
theorem dL_against_16 : decode cL_against 16 = .ok (.ireturn, 1) := by decide +kernel
theorem dL_lock_0 : decode cL_lock 0 = .ok (.aload_n 1, 1) := by decide +kernel
theorem dL_lock_1 : decode cL_lock 1 = .ok (.iconst 0, 1) := by decide +kernel
theorem dL_lock_2 : decode cL_lock 2 = .ok (.aload_n 0, 1) := by decide +kernel
theorem dL_lock_3 : decode cL_lock 3 = .ok (.invokevirtual 82, 3) := by decide +kernel
theorem dL_lock_6 : decode cL_lock 6 = .ok (.i2l, 1) := by decide +kernel
theorem dL_lock_7 : decode cL_lock 7 = .ok (.lastore, 1) := by decide +kernel
theorem dL_lock_8 : decode cL_lock 8 = .ok (.goto 6, 3) := by decide +kernel
theorem dL_lock_11 : decode cL_lock 11 = .ok (.astore_n 2, 1) := by decide +kernel
theorem dL_lock_12 : decode cL_lock 12 = .ok (.iconst 1, 1) := by decide +kernel
theorem dL_lock_13 : decode cL_lock 13 = .ok (.ireturn, 1) := by decide +kernel
theorem dL_lock_14 : decode cL_lock 14 = .ok (.iconst 0, 1) := by decide +kernel
theorem dL_lock_15 : decode cL_lock 15 = .ok (.ireturn, 1) := by decide +kernel
theorem dL_unlock_0 : decode cL_unlock 0 = .ok (.aload_n 2, 1) := by decide +kernel
theorem dL_unlock_1 : decode cL_unlock 1 = .ok (.iconst 0, 1) := by decide +kernel
theorem dL_unlock_2 : decode cL_unlock 2 = .ok (.aload_n 0, 1) := by decide +kernel
theorem dL_unlock_3 : decode cL_unlock 3 = .ok (.iload_n 1, 1) := by decide +kernel
theorem dL_unlock_4 : decode cL_unlock 4 = .ok (.invokevirtual 86, 3) := by decide +kernel
theorem dL_unlock_7 : decode cL_unlock 7 = .ok (.i2l, 1) := by decide +kernel
theorem dL_unlock_8 : decode cL_unlock 8 = .ok (.lastore, 1) := by decide +kernel
theorem dL_unlock_9 : decode cL_unlock 9 = .ok (.goto 6, 3) := by decide +kernel
theorem dL_unlock_12 : decode cL_unlock 12 = .ok (.astore_n 3, 1) := by decide +kernel
theorem dL_unlock_13 : decode cL_unlock 13 = .ok (.iconst 1, 1) := by decide +kernel
theorem dL_unlock_14 : decode cL_unlock 14 = .ok (.ireturn, 1) := by decide +kernel
theorem dL_unlock_15 : decode cL_unlock 15 = .ok (.iconst 0, 1) := by decide +kernel
theorem dL_unlock_16 : decode cL_unlock 16 = .ok (.ireturn, 1) := by decide +kernel
theorem dL_install_0 : decode cL_install 0 = .ok (.aload_n 2, 1) := by decide +kernel
theorem dL_install_1 : decode cL_install 1 = .ok (.iconst 0, 1) := by decide +kernel
theorem dL_install_2 : decode cL_install 2 = .ok (.aload_n 0, 1) := by decide +kernel
theorem dL_install_3 : decode cL_install 3 = .ok (.iload_n 1, 1) := by decide +kernel
theorem dL_install_4 : decode cL_install 4 = .ok (.invokevirtual 89, 3) := by decide +kernel
theorem dL_install_7 : decode cL_install 7 = .ok (.i2l, 1) := by decide +kernel
theorem dL_install_8 : decode cL_install 8 = .ok (.lastore, 1) := by decide +kernel
theorem dL_install_9 : decode cL_install 9 = .ok (.goto 9, 3) := by decide +kernel
theorem dL_install_12 : decode cL_install 12 = .ok (.astore_n 3, 1) := by decide +kernel
theorem dL_install_13 : decode cL_install 13 = .ok (.iconst 1, 1) := by decide +kernel
theorem dL_install_14 : decode cL_install 14 = .ok (.ireturn, 1) := by decide +kernel
theorem dL_install_15 : decode cL_install 15 = .ok (.astore_n 3, 1) := by decide +kernel
theorem dL_install_16 : decode cL_install 16 = .ok (.iconst 2, 1) := by decide +kernel
theorem dL_install_17 : decode cL_install 17 = .ok (.ireturn, 1) := by decide +kernel
theorem dL_install_18 : decode cL_install 18 = .ok (.iconst 0, 1) := by decide +kernel
theorem dL_install_19 : decode cL_install 19 = .ok (.ireturn, 1) := by decide +kernel
theorem dL_spoil_0 : decode cL_spoil 0 = .ok (.aload_n 2, 1) := by decide +kernel
theorem dL_spoil_1 : decode cL_spoil 1 = .ok (.iconst 0, 1) := by decide +kernel
theorem dL_spoil_2 : decode cL_spoil 2 = .ok (.aload_n 0, 1) := by decide +kernel
theorem dL_spoil_3 : decode cL_spoil 3 = .ok (.iload_n 1, 1) := by decide +kernel
theorem dL_spoil_4 : decode cL_spoil 4 = .ok (.invokevirtual 92, 3) := by decide +kernel
theorem dL_spoil_7 : decode cL_spoil 7 = .ok (.i2l, 1) := by decide +kernel
theorem dL_spoil_8 : decode cL_spoil 8 = .ok (.lastore, 1) := by decide +kernel
theorem dL_spoil_9 : decode cL_spoil 9 = .ok (.goto 9, 3) := by decide +kernel
theorem dL_spoil_12 : decode cL_spoil 12 = .ok (.astore_n 3, 1) := by decide +kernel
theorem dL_spoil_13 : decode cL_spoil 13 = .ok (.iconst 1, 1) := by decide +kernel
theorem dL_spoil_14 : decode cL_spoil 14 = .ok (.ireturn, 1) := by decide +kernel
theorem dL_spoil_15 : decode cL_spoil 15 = .ok (.astore_n 3, 1) := by decide +kernel
theorem dL_spoil_16 : decode cL_spoil 16 = .ok (.iconst 2, 1) := by decide +kernel
theorem dL_spoil_17 : decode cL_spoil 17 = .ok (.ireturn, 1) := by decide +kernel
theorem dL_spoil_18 : decode cL_spoil 18 = .ok (.iconst 0, 1) := by decide +kernel
theorem dL_spoil_19 : decode cL_spoil 19 = .ok (.ireturn, 1) := by decide +kernel
theorem dL_onDisk_0 : decode cL_onDisk 0 = .ok (.aload_n 2, 1) := by decide +kernel
theorem dL_onDisk_1 : decode cL_onDisk 1 = .ok (.iconst 0, 1) := by decide +kernel
theorem dL_onDisk_2 : decode cL_onDisk 2 = .ok (.aload_n 0, 1) := by decide +kernel
theorem dL_onDisk_3 : decode cL_onDisk 3 = .ok (.iload_n 1, 1) := by decide +kernel
theorem dL_onDisk_4 : decode cL_onDisk 4 = .ok (.invokevirtual 95, 3) := by decide +kernel
theorem dL_onDisk_7 : decode cL_onDisk 7 = .ok (.i2l, 1) := by decide +kernel
theorem dL_onDisk_8 : decode cL_onDisk 8 = .ok (.lastore, 1) := by decide +kernel
theorem dL_onDisk_9 : decode cL_onDisk 9 = .ok (.goto 6, 3) := by decide +kernel
theorem dL_onDisk_12 : decode cL_onDisk 12 = .ok (.astore_n 3, 1) := by decide +kernel
theorem dL_onDisk_13 : decode cL_onDisk 13 = .ok (.iconst 1, 1) := by decide +kernel
theorem dL_onDisk_14 : decode cL_onDisk 14 = .ok (.ireturn, 1) := by decide +kernel
theorem dL_onDisk_15 : decode cL_onDisk 15 = .ok (.iconst 0, 1) := by decide +kernel
theorem dL_onDisk_16 : decode cL_onDisk 16 = .ok (.ireturn, 1) := by decide +kernel
end
section
theorem dL_law_0 : decode cL_law 0 = .ok (.new 8, 3) := by decide +kernel
theorem dL_law_3 : decode cL_law 3 = .ok (.dup, 1) := by decide +kernel
theorem dL_law_4 : decode cL_law 4 = .ok (.invokespecial 98, 3) := by decide +kernel
theorem dL_law_7 : decode cL_law 7 = .ok (.astore_n 1, 1) := by decide +kernel
theorem dL_law_8 : decode cL_law 8 = .ok (.new 99, 3) := by decide +kernel
theorem dL_law_11 : decode cL_law 11 = .ok (.dup, 1) := by decide +kernel
theorem dL_law_12 : decode cL_law 12 = .ok (.invokespecial 101, 3) := by decide +kernel
theorem dL_law_15 : decode cL_law 15 = .ok (.astore_n 2, 1) := by decide +kernel
theorem dL_law_16 : decode cL_law 16 = .ok (.iconst 1, 1) := by decide +kernel
theorem dL_law_17 : decode cL_law 17 = .ok (.newarray .long, 2) := by decide +kernel
theorem dL_law_19 : decode cL_law 19 = .ok (.astore_n 3, 1) := by decide +kernel
theorem dL_law_20 : decode cL_law 20 = .ok (.iconst 0, 1) := by decide +kernel
theorem dL_law_21 : decode cL_law 21 = .ok (.istore 4, 2) := by decide +kernel
theorem dL_law_23 : decode cL_law 23 = .ok (.iload 4, 2) := by decide +kernel
theorem dL_law_25 : decode cL_law 25 = .ok (.aload_n 0, 1) := by decide +kernel
theorem dL_law_26 : decode cL_law 26 = .ok (.arraylength, 1) := by decide +kernel
theorem dL_law_27 : decode cL_law 27 = .ok (.bipush 8, 2) := by decide +kernel
theorem dL_law_29 : decode cL_law 29 = .ok (.isub, 1) := by decide +kernel
theorem dL_law_30 : decode cL_law 30 = .ok (.if_icmp .gt 1874, 3) := by decide +kernel
theorem dL_law_33 : decode cL_law 33 = .ok (.aload_n 0, 1) := by decide +kernel
theorem dL_law_34 : decode cL_law 34 = .ok (.iload 4, 2) := by decide +kernel
theorem dL_law_36 : decode cL_law 36 = .ok (.iaload, 1) := by decide +kernel
theorem dL_law_37 : decode cL_law 37 = .ok (.bipush 31, 2) := by decide +kernel
theorem dL_law_39 : decode cL_law 39 = .ok (.iand, 1) := by decide +kernel
theorem dL_law_40 : decode cL_law 40 = .ok (.tableswitch 1858 0 26 #[124, 242, 310, 373, 441, 528, 632, 712, 787, 919, 1011, 1079, 1135, 1203, 1259, 1327, 1383, 1439, 1495, 1508, 1521, 1577, 1621, 1677, 1733, 1789, 1845], 124) := by decide +kernel
theorem dL_law_164 : decode cL_law 164 = .ok (.aload_n 1, 1) := by decide +kernel
theorem dL_law_165 : decode cL_law 165 = .ok (.aload_n 0, 1) := by decide +kernel
theorem dL_law_166 : decode cL_law 166 = .ok (.iload 4, 2) := by decide +kernel
theorem dL_law_168 : decode cL_law 168 = .ok (.iconst 1, 1) := by decide +kernel
theorem dL_law_169 : decode cL_law 169 = .ok (.iadd, 1) := by decide +kernel
theorem dL_law_170 : decode cL_law 170 = .ok (.iaload, 1) := by decide +kernel
theorem dL_law_171 : decode cL_law 171 = .ok (.aload_n 0, 1) := by decide +kernel
theorem dL_law_172 : decode cL_law 172 = .ok (.iload 4, 2) := by decide +kernel
theorem dL_law_174 : decode cL_law 174 = .ok (.iconst 2, 1) := by decide +kernel
theorem dL_law_175 : decode cL_law 175 = .ok (.iadd, 1) := by decide +kernel
theorem dL_law_176 : decode cL_law 176 = .ok (.iaload, 1) := by decide +kernel
theorem dL_law_177 : decode cL_law 177 = .ok (.aload_n 0, 1) := by decide +kernel
theorem dL_law_178 : decode cL_law 178 = .ok (.iload 4, 2) := by decide +kernel
theorem dL_law_180 : decode cL_law 180 = .ok (.iconst 3, 1) := by decide +kernel
theorem dL_law_181 : decode cL_law 181 = .ok (.iadd, 1) := by decide +kernel
theorem dL_law_182 : decode cL_law 182 = .ok (.iaload, 1) := by decide +kernel
theorem dL_law_183 : decode cL_law 183 = .ok (.aload_n 0, 1) := by decide +kernel
theorem dL_law_184 : decode cL_law 184 = .ok (.iload 4, 2) := by decide +kernel
theorem dL_law_186 : decode cL_law 186 = .ok (.iconst 4, 1) := by decide +kernel
theorem dL_law_187 : decode cL_law 187 = .ok (.iadd, 1) := by decide +kernel
theorem dL_law_188 : decode cL_law 188 = .ok (.iaload, 1) := by decide +kernel
theorem dL_law_189 : decode cL_law 189 = .ok (.aload_n 0, 1) := by decide +kernel
theorem dL_law_190 : decode cL_law 190 = .ok (.iload 4, 2) := by decide +kernel
theorem dL_law_192 : decode cL_law 192 = .ok (.iconst 5, 1) := by decide +kernel
theorem dL_law_193 : decode cL_law 193 = .ok (.iadd, 1) := by decide +kernel
theorem dL_law_194 : decode cL_law 194 = .ok (.iaload, 1) := by decide +kernel
theorem dL_law_195 : decode cL_law 195 = .ok (.aload_n 0, 1) := by decide +kernel
theorem dL_law_196 : decode cL_law 196 = .ok (.iload 4, 2) := by decide +kernel
theorem dL_law_198 : decode cL_law 198 = .ok (.bipush 6, 2) := by decide +kernel
theorem dL_law_200 : decode cL_law 200 = .ok (.iadd, 1) := by decide +kernel
theorem dL_law_201 : decode cL_law 201 = .ok (.iaload, 1) := by decide +kernel
theorem dL_law_202 : decode cL_law 202 = .ok (.aload_n 3, 1) := by decide +kernel
theorem dL_law_203 : decode cL_law 203 = .ok (.invokestatic 102, 3) := by decide +kernel
theorem dL_law_206 : decode cL_law 206 = .ok (.istore 5, 2) := by decide +kernel
theorem dL_law_208 : decode cL_law 208 = .ok (.aload_n 2, 1) := by decide +kernel
theorem dL_law_209 : decode cL_law 209 = .ok (.aload_n 0, 1) := by decide +kernel
theorem dL_law_210 : decode cL_law 210 = .ok (.iload 4, 2) := by decide +kernel
theorem dL_law_212 : decode cL_law 212 = .ok (.iconst 1, 1) := by decide +kernel
theorem dL_law_213 : decode cL_law 213 = .ok (.iadd, 1) := by decide +kernel
theorem dL_law_214 : decode cL_law 214 = .ok (.iaload, 1) := by decide +kernel
theorem dL_law_215 : decode cL_law 215 = .ok (.aload_n 0, 1) := by decide +kernel
theorem dL_law_216 : decode cL_law 216 = .ok (.iload 4, 2) := by decide +kernel
theorem dL_law_218 : decode cL_law 218 = .ok (.iconst 2, 1) := by decide +kernel
theorem dL_law_219 : decode cL_law 219 = .ok (.iadd, 1) := by decide +kernel
theorem dL_law_220 : decode cL_law 220 = .ok (.iaload, 1) := by decide +kernel
theorem dL_law_221 : decode cL_law 221 = .ok (.aload_n 0, 1) := by decide +kernel
theorem dL_law_222 : decode cL_law 222 = .ok (.iload 4, 2) := by decide +kernel
theorem dL_law_224 : decode cL_law 224 = .ok (.iconst 3, 1) := by decide +kernel
theorem dL_law_225 : decode cL_law 225 = .ok (.iadd, 1) := by decide +kernel
theorem dL_law_226 : decode cL_law 226 = .ok (.iaload, 1) := by decide +kernel
theorem dL_law_227 : decode cL_law 227 = .ok (.aload_n 0, 1) := by decide +kernel
theorem dL_law_228 : decode cL_law 228 = .ok (.iload 4, 2) := by decide +kernel
theorem dL_law_230 : decode cL_law 230 = .ok (.iconst 4, 1) := by decide +kernel
theorem dL_law_231 : decode cL_law 231 = .ok (.iadd, 1) := by decide +kernel
theorem dL_law_232 : decode cL_law 232 = .ok (.iaload, 1) := by decide +kernel
theorem dL_law_233 : decode cL_law 233 = .ok (.aload_n 0, 1) := by decide +kernel
theorem dL_law_234 : decode cL_law 234 = .ok (.iload 4, 2) := by decide +kernel
theorem dL_law_236 : decode cL_law 236 = .ok (.iconst 5, 1) := by decide +kernel
theorem dL_law_237 : decode cL_law 237 = .ok (.iadd, 1) := by decide +kernel
theorem dL_law_238 : decode cL_law 238 = .ok (.iaload, 1) := by decide +kernel
theorem dL_law_239 : decode cL_law 239 = .ok (.aload_n 0, 1) := by decide +kernel
theorem dL_law_240 : decode cL_law 240 = .ok (.iload 4, 2) := by decide +kernel
theorem dL_law_242 : decode cL_law 242 = .ok (.bipush 6, 2) := by decide +kernel
theorem dL_law_244 : decode cL_law 244 = .ok (.iadd, 1) := by decide +kernel
theorem dL_law_245 : decode cL_law 245 = .ok (.iaload, 1) := by decide +kernel
theorem dL_law_246 : decode cL_law 246 = .ok (.invokevirtual 107, 3) := by decide +kernel
theorem dL_law_249 : decode cL_law 249 = .ok (.istore 6, 2) := by decide +kernel
theorem dL_law_251 : decode cL_law 251 = .ok (.aload_n 2, 1) := by decide +kernel
theorem dL_law_252 : decode cL_law 252 = .ok (.invokevirtual 108, 3) := by decide +kernel
theorem dL_law_255 : decode cL_law 255 = .ok (.iload 5, 2) := by decide +kernel
theorem dL_law_257 : decode cL_law 257 = .ok (.if_icmp .eq 5, 3) := by decide +kernel
theorem dL_law_260 : decode cL_law 260 = .ok (.iconst 0, 1) := by decide +kernel
theorem dL_law_261 : decode cL_law 261 = .ok (.ireturn, 1) := by decide +kernel
theorem dL_law_262 : decode cL_law 262 = .ok (.iload 5, 2) := by decide +kernel
theorem dL_law_264 : decode cL_law 264 = .ok (.ifCond .ne 15, 3) := by decide +kernel
theorem dL_law_267 : decode cL_law 267 = .ok (.aload_n 3, 1) := by decide +kernel
theorem dL_law_268 : decode cL_law 268 = .ok (.iconst 0, 1) := by decide +kernel
theorem dL_law_269 : decode cL_law 269 = .ok (.laload, 1) := by decide +kernel
theorem dL_law_270 : decode cL_law 270 = .ok (.iload 6, 2) := by decide +kernel
theorem dL_law_272 : decode cL_law 272 = .ok (.i2l, 1) := by decide +kernel
theorem dL_law_273 : decode cL_law 273 = .ok (.lcmp, 1) := by decide +kernel
theorem dL_law_274 : decode cL_law 274 = .ok (.ifCond .eq 5, 3) := by decide +kernel
theorem dL_law_277 : decode cL_law 277 = .ok (.iconst 0, 1) := by decide +kernel
theorem dL_law_278 : decode cL_law 278 = .ok (.ireturn, 1) := by decide +kernel
theorem dL_law_279 : decode cL_law 279 = .ok (.goto 1619, 3) := by decide +kernel
theorem dL_law_282 : decode cL_law 282 = .ok (.aload_n 1, 1) := by decide +kernel
theorem dL_law_283 : decode cL_law 283 = .ok (.aload_n 0, 1) := by decide +kernel
theorem dL_law_284 : decode cL_law 284 = .ok (.iload 4, 2) := by decide +kernel
theorem dL_law_286 : decode cL_law 286 = .ok (.iconst 1, 1) := by decide +kernel
theorem dL_law_287 : decode cL_law 287 = .ok (.iadd, 1) := by decide +kernel
theorem dL_law_288 : decode cL_law 288 = .ok (.iaload, 1) := by decide +kernel
theorem dL_law_289 : decode cL_law 289 = .ok (.aload_n 0, 1) := by decide +kernel
theorem dL_law_290 : decode cL_law 290 = .ok (.iload 4, 2) := by decide +kernel
theorem dL_law_292 : decode cL_law 292 = .ok (.iconst 2, 1) := by decide +kernel
theorem dL_law_293 : decode cL_law 293 = .ok (.iadd, 1) := by decide +kernel
theorem dL_law_294 : decode cL_law 294 = .ok (.iaload, 1) := by decide +kernel
theorem dL_law_295 : decode cL_law 295 = .ok (.aload_n 3, 1) := by decide +kernel
theorem dL_law_296 : decode cL_law 296 = .ok (.invokestatic 111, 3) := by decide +kernel
theorem dL_law_299 : decode cL_law 299 = .ok (.istore 5, 2) := by decide +kernel
theorem dL_law_301 : decode cL_law 301 = .ok (.aload_n 2, 1) := by decide +kernel
theorem dL_law_302 : decode cL_law 302 = .ok (.aload_n 0, 1) := by decide +kernel
theorem dL_law_303 : decode cL_law 303 = .ok (.iload 4, 2) := by decide +kernel
theorem dL_law_305 : decode cL_law 305 = .ok (.iconst 1, 1) := by decide +kernel
theorem dL_law_306 : decode cL_law 306 = .ok (.iadd, 1) := by decide +kernel
theorem dL_law_307 : decode cL_law 307 = .ok (.iaload, 1) := by decide +kernel
theorem dL_law_308 : decode cL_law 308 = .ok (.aload_n 0, 1) := by decide +kernel
theorem dL_law_309 : decode cL_law 309 = .ok (.iload 4, 2) := by decide +kernel
theorem dL_law_311 : decode cL_law 311 = .ok (.iconst 2, 1) := by decide +kernel
theorem dL_law_312 : decode cL_law 312 = .ok (.iadd, 1) := by decide +kernel
theorem dL_law_313 : decode cL_law 313 = .ok (.iaload, 1) := by decide +kernel
theorem dL_law_314 : decode cL_law 314 = .ok (.invokevirtual 114, 3) := by decide +kernel
theorem dL_law_317 : decode cL_law 317 = .ok (.istore 6, 2) := by decide +kernel
theorem dL_law_319 : decode cL_law 319 = .ok (.aload_n 2, 1) := by decide +kernel
theorem dL_law_320 : decode cL_law 320 = .ok (.invokevirtual 108, 3) := by decide +kernel
theorem dL_law_323 : decode cL_law 323 = .ok (.iload 5, 2) := by decide +kernel
theorem dL_law_325 : decode cL_law 325 = .ok (.if_icmp .eq 5, 3) := by decide +kernel
theorem dL_law_328 : decode cL_law 328 = .ok (.iconst 0, 1) := by decide +kernel
theorem dL_law_329 : decode cL_law 329 = .ok (.ireturn, 1) := by decide +kernel
theorem dL_law_330 : decode cL_law 330 = .ok (.iload 5, 2) := by decide +kernel
theorem dL_law_332 : decode cL_law 332 = .ok (.ifCond .ne 15, 3) := by decide +kernel
theorem dL_law_335 : decode cL_law 335 = .ok (.aload_n 3, 1) := by decide +kernel
theorem dL_law_336 : decode cL_law 336 = .ok (.iconst 0, 1) := by decide +kernel
theorem dL_law_337 : decode cL_law 337 = .ok (.laload, 1) := by decide +kernel
theorem dL_law_338 : decode cL_law 338 = .ok (.iload 6, 2) := by decide +kernel
theorem dL_law_340 : decode cL_law 340 = .ok (.i2l, 1) := by decide +kernel
theorem dL_law_341 : decode cL_law 341 = .ok (.lcmp, 1) := by decide +kernel
theorem dL_law_342 : decode cL_law 342 = .ok (.ifCond .eq 5, 3) := by decide +kernel
theorem dL_law_345 : decode cL_law 345 = .ok (.iconst 0, 1) := by decide +kernel
theorem dL_law_346 : decode cL_law 346 = .ok (.ireturn, 1) := by decide +kernel
theorem dL_law_347 : decode cL_law 347 = .ok (.goto 1551, 3) := by decide +kernel
theorem dL_law_350 : decode cL_law 350 = .ok (.aload_n 1, 1) := by decide +kernel
theorem dL_law_351 : decode cL_law 351 = .ok (.aload_n 0, 1) := by decide +kernel
theorem dL_law_352 : decode cL_law 352 = .ok (.iload 4, 2) := by decide +kernel
theorem dL_law_354 : decode cL_law 354 = .ok (.iconst 1, 1) := by decide +kernel
theorem dL_law_355 : decode cL_law 355 = .ok (.iadd, 1) := by decide +kernel
theorem dL_law_356 : decode cL_law 356 = .ok (.iaload, 1) := by decide +kernel
theorem dL_law_357 : decode cL_law 357 = .ok (.aload_n 3, 1) := by decide +kernel
theorem dL_law_358 : decode cL_law 358 = .ok (.invokestatic 115, 3) := by decide +kernel
theorem dL_law_361 : decode cL_law 361 = .ok (.istore 5, 2) := by decide +kernel
theorem dL_law_363 : decode cL_law 363 = .ok (.aload_n 2, 1) := by decide +kernel
theorem dL_law_364 : decode cL_law 364 = .ok (.aload_n 0, 1) := by decide +kernel
theorem dL_law_365 : decode cL_law 365 = .ok (.iload 4, 2) := by decide +kernel
theorem dL_law_367 : decode cL_law 367 = .ok (.iconst 1, 1) := by decide +kernel
theorem dL_law_368 : decode cL_law 368 = .ok (.iadd, 1) := by decide +kernel
theorem dL_law_369 : decode cL_law 369 = .ok (.iaload, 1) := by decide +kernel
theorem dL_law_370 : decode cL_law 370 = .ok (.invokevirtual 118, 3) := by decide +kernel
theorem dL_law_373 : decode cL_law 373 = .ok (.istore 6, 2) := by decide +kernel
theorem dL_law_375 : decode cL_law 375 = .ok (.aload_n 2, 1) := by decide +kernel
theorem dL_law_376 : decode cL_law 376 = .ok (.invokevirtual 108, 3) := by decide +kernel
theorem dL_law_379 : decode cL_law 379 = .ok (.iload 5, 2) := by decide +kernel
theorem dL_law_381 : decode cL_law 381 = .ok (.if_icmp .eq 5, 3) := by decide +kernel
theorem dL_law_384 : decode cL_law 384 = .ok (.iconst 0, 1) := by decide +kernel
theorem dL_law_385 : decode cL_law 385 = .ok (.ireturn, 1) := by decide +kernel
theorem dL_law_386 : decode cL_law 386 = .ok (.iload 5, 2) := by decide +kernel
theorem dL_law_388 : decode cL_law 388 = .ok (.ifCond .ne 22, 3) := by decide +kernel
theorem dL_law_391 : decode cL_law 391 = .ok (.aload_n 3, 1) := by decide +kernel
theorem dL_law_392 : decode cL_law 392 = .ok (.iconst 0, 1) := by decide +kernel
theorem dL_law_393 : decode cL_law 393 = .ok (.laload, 1) := by decide +kernel
theorem dL_law_394 : decode cL_law 394 = .ok (.iload 6, 2) := by decide +kernel
theorem dL_law_396 : decode cL_law 396 = .ok (.ifCond .eq 7, 3) := by decide +kernel
theorem dL_law_399 : decode cL_law 399 = .ok (.lconst 1, 1) := by decide +kernel
theorem dL_law_400 : decode cL_law 400 = .ok (.goto 4, 3) := by decide +kernel
theorem dL_law_403 : decode cL_law 403 = .ok (.lconst 0, 1) := by decide +kernel
theorem dL_law_404 : decode cL_law 404 = .ok (.lcmp, 1) := by decide +kernel
theorem dL_law_405 : decode cL_law 405 = .ok (.ifCond .eq 5, 3) := by decide +kernel
theorem dL_law_408 : decode cL_law 408 = .ok (.iconst 0, 1) := by decide +kernel
theorem dL_law_409 : decode cL_law 409 = .ok (.ireturn, 1) := by decide +kernel
theorem dL_law_410 : decode cL_law 410 = .ok (.goto 1488, 3) := by decide +kernel
theorem dL_law_413 : decode cL_law 413 = .ok (.aload_n 1, 1) := by decide +kernel
theorem dL_law_414 : decode cL_law 414 = .ok (.aload_n 0, 1) := by decide +kernel
theorem dL_law_415 : decode cL_law 415 = .ok (.iload 4, 2) := by decide +kernel
theorem dL_law_417 : decode cL_law 417 = .ok (.iconst 1, 1) := by decide +kernel
theorem dL_law_418 : decode cL_law 418 = .ok (.iadd, 1) := by decide +kernel
theorem dL_law_419 : decode cL_law 419 = .ok (.iaload, 1) := by decide +kernel
theorem dL_law_420 : decode cL_law 420 = .ok (.aload_n 0, 1) := by decide +kernel
theorem dL_law_421 : decode cL_law 421 = .ok (.iload 4, 2) := by decide +kernel
theorem dL_law_423 : decode cL_law 423 = .ok (.iconst 2, 1) := by decide +kernel
theorem dL_law_424 : decode cL_law 424 = .ok (.iadd, 1) := by decide +kernel
theorem dL_law_425 : decode cL_law 425 = .ok (.iaload, 1) := by decide +kernel
theorem dL_law_426 : decode cL_law 426 = .ok (.aload_n 3, 1) := by decide +kernel
theorem dL_law_427 : decode cL_law 427 = .ok (.invokestatic 119, 3) := by decide +kernel
theorem dL_law_430 : decode cL_law 430 = .ok (.istore 5, 2) := by decide +kernel
theorem dL_law_432 : decode cL_law 432 = .ok (.aload_n 2, 1) := by decide +kernel
theorem dL_law_433 : decode cL_law 433 = .ok (.aload_n 0, 1) := by decide +kernel
theorem dL_law_434 : decode cL_law 434 = .ok (.iload 4, 2) := by decide +kernel
theorem dL_law_436 : decode cL_law 436 = .ok (.iconst 1, 1) := by decide +kernel
theorem dL_law_437 : decode cL_law 437 = .ok (.iadd, 1) := by decide +kernel
theorem dL_law_438 : decode cL_law 438 = .ok (.iaload, 1) := by decide +kernel
theorem dL_law_439 : decode cL_law 439 = .ok (.aload_n 0, 1) := by decide +kernel
theorem dL_law_440 : decode cL_law 440 = .ok (.iload 4, 2) := by decide +kernel
theorem dL_law_442 : decode cL_law 442 = .ok (.iconst 2, 1) := by decide +kernel
theorem dL_law_443 : decode cL_law 443 = .ok (.iadd, 1) := by decide +kernel
theorem dL_law_444 : decode cL_law 444 = .ok (.iaload, 1) := by decide +kernel
theorem dL_law_445 : decode cL_law 445 = .ok (.invokevirtual 121, 3) := by decide +kernel
theorem dL_law_448 : decode cL_law 448 = .ok (.istore 6, 2) := by decide +kernel
theorem dL_law_450 : decode cL_law 450 = .ok (.aload_n 2, 1) := by decide +kernel
theorem dL_law_451 : decode cL_law 451 = .ok (.invokevirtual 108, 3) := by decide +kernel
theorem dL_law_454 : decode cL_law 454 = .ok (.iload 5, 2) := by decide +kernel
theorem dL_law_456 : decode cL_law 456 = .ok (.if_icmp .eq 5, 3) := by decide +kernel
theorem dL_law_459 : decode cL_law 459 = .ok (.iconst 0, 1) := by decide +kernel
theorem dL_law_460 : decode cL_law 460 = .ok (.ireturn, 1) := by decide +kernel
theorem dL_law_461 : decode cL_law 461 = .ok (.iload 5, 2) := by decide +kernel
theorem dL_law_463 : decode cL_law 463 = .ok (.ifCond .ne 15, 3) := by decide +kernel
theorem dL_law_466 : decode cL_law 466 = .ok (.aload_n 3, 1) := by decide +kernel
theorem dL_law_467 : decode cL_law 467 = .ok (.iconst 0, 1) := by decide +kernel
theorem dL_law_468 : decode cL_law 468 = .ok (.laload, 1) := by decide +kernel
theorem dL_law_469 : decode cL_law 469 = .ok (.iload 6, 2) := by decide +kernel
theorem dL_law_471 : decode cL_law 471 = .ok (.i2l, 1) := by decide +kernel
theorem dL_law_472 : decode cL_law 472 = .ok (.lcmp, 1) := by decide +kernel
theorem dL_law_473 : decode cL_law 473 = .ok (.ifCond .eq 5, 3) := by decide +kernel
theorem dL_law_476 : decode cL_law 476 = .ok (.iconst 0, 1) := by decide +kernel
theorem dL_law_477 : decode cL_law 477 = .ok (.ireturn, 1) := by decide +kernel
theorem dL_law_478 : decode cL_law 478 = .ok (.goto 1420, 3) := by decide +kernel
theorem dL_law_481 : decode cL_law 481 = .ok (.aload_n 1, 1) := by decide +kernel
theorem dL_law_482 : decode cL_law 482 = .ok (.aload_n 0, 1) := by decide +kernel
theorem dL_law_483 : decode cL_law 483 = .ok (.iload 4, 2) := by decide +kernel
theorem dL_law_485 : decode cL_law 485 = .ok (.iconst 1, 1) := by decide +kernel
theorem dL_law_486 : decode cL_law 486 = .ok (.iadd, 1) := by decide +kernel
theorem dL_law_487 : decode cL_law 487 = .ok (.iaload, 1) := by decide +kernel
theorem dL_law_488 : decode cL_law 488 = .ok (.aload_n 0, 1) := by decide +kernel
theorem dL_law_489 : decode cL_law 489 = .ok (.iload 4, 2) := by decide +kernel
theorem dL_law_491 : decode cL_law 491 = .ok (.iconst 2, 1) := by decide +kernel
theorem dL_law_492 : decode cL_law 492 = .ok (.iadd, 1) := by decide +kernel
theorem dL_law_493 : decode cL_law 493 = .ok (.iaload, 1) := by decide +kernel
theorem dL_law_494 : decode cL_law 494 = .ok (.aload_n 0, 1) := by decide +kernel
theorem dL_law_495 : decode cL_law 495 = .ok (.iload 4, 2) := by decide +kernel
theorem dL_law_497 : decode cL_law 497 = .ok (.iconst 3, 1) := by decide +kernel
theorem dL_law_498 : decode cL_law 498 = .ok (.iadd, 1) := by decide +kernel
theorem dL_law_499 : decode cL_law 499 = .ok (.iaload, 1) := by decide +kernel
theorem dL_law_500 : decode cL_law 500 = .ok (.aload_n 3, 1) := by decide +kernel
theorem dL_law_501 : decode cL_law 501 = .ok (.invokestatic 122, 3) := by decide +kernel
theorem dL_law_504 : decode cL_law 504 = .ok (.istore 5, 2) := by decide +kernel
theorem dL_law_506 : decode cL_law 506 = .ok (.aload_n 2, 1) := by decide +kernel
theorem dL_law_507 : decode cL_law 507 = .ok (.aload_n 0, 1) := by decide +kernel
theorem dL_law_508 : decode cL_law 508 = .ok (.iload 4, 2) := by decide +kernel
theorem dL_law_510 : decode cL_law 510 = .ok (.iconst 1, 1) := by decide +kernel
theorem dL_law_511 : decode cL_law 511 = .ok (.iadd, 1) := by decide +kernel
theorem dL_law_512 : decode cL_law 512 = .ok (.iaload, 1) := by decide +kernel
theorem dL_law_513 : decode cL_law 513 = .ok (.aload_n 0, 1) := by decide +kernel
theorem dL_law_514 : decode cL_law 514 = .ok (.iload 4, 2) := by decide +kernel
theorem dL_law_516 : decode cL_law 516 = .ok (.iconst 2, 1) := by decide +kernel
theorem dL_law_517 : decode cL_law 517 = .ok (.iadd, 1) := by decide +kernel
theorem dL_law_518 : decode cL_law 518 = .ok (.iaload, 1) := by decide +kernel
theorem dL_law_519 : decode cL_law 519 = .ok (.aload_n 0, 1) := by decide +kernel
theorem dL_law_520 : decode cL_law 520 = .ok (.iload 4, 2) := by decide +kernel
theorem dL_law_522 : decode cL_law 522 = .ok (.iconst 3, 1) := by decide +kernel
theorem dL_law_523 : decode cL_law 523 = .ok (.iadd, 1) := by decide +kernel
theorem dL_law_524 : decode cL_law 524 = .ok (.iaload, 1) := by decide +kernel
theorem dL_law_525 : decode cL_law 525 = .ok (.invokevirtual 125, 3) := by decide +kernel
theorem dL_law_528 : decode cL_law 528 = .ok (.istore 6, 2) := by decide +kernel
theorem dL_law_530 : decode cL_law 530 = .ok (.aload_n 2, 1) := by decide +kernel
theorem dL_law_531 : decode cL_law 531 = .ok (.invokevirtual 108, 3) := by decide +kernel
theorem dL_law_534 : decode cL_law 534 = .ok (.iload 5, 2) := by decide +kernel
theorem dL_law_536 : decode cL_law 536 = .ok (.if_icmp .eq 5, 3) := by decide +kernel
theorem dL_law_539 : decode cL_law 539 = .ok (.iconst 0, 1) := by decide +kernel
theorem dL_law_540 : decode cL_law 540 = .ok (.ireturn, 1) := by decide +kernel
theorem dL_law_541 : decode cL_law 541 = .ok (.iload 5, 2) := by decide +kernel
theorem dL_law_543 : decode cL_law 543 = .ok (.ifCond .ne 22, 3) := by decide +kernel
theorem dL_law_546 : decode cL_law 546 = .ok (.aload_n 3, 1) := by decide +kernel
theorem dL_law_547 : decode cL_law 547 = .ok (.iconst 0, 1) := by decide +kernel
theorem dL_law_548 : decode cL_law 548 = .ok (.laload, 1) := by decide +kernel
theorem dL_law_549 : decode cL_law 549 = .ok (.iload 6, 2) := by decide +kernel
theorem dL_law_551 : decode cL_law 551 = .ok (.ifCond .eq 7, 3) := by decide +kernel
theorem dL_law_554 : decode cL_law 554 = .ok (.lconst 1, 1) := by decide +kernel
theorem dL_law_555 : decode cL_law 555 = .ok (.goto 4, 3) := by decide +kernel
theorem dL_law_558 : decode cL_law 558 = .ok (.lconst 0, 1) := by decide +kernel
theorem dL_law_559 : decode cL_law 559 = .ok (.lcmp, 1) := by decide +kernel
theorem dL_law_560 : decode cL_law 560 = .ok (.ifCond .eq 5, 3) := by decide +kernel
theorem dL_law_563 : decode cL_law 563 = .ok (.iconst 0, 1) := by decide +kernel
theorem dL_law_564 : decode cL_law 564 = .ok (.ireturn, 1) := by decide +kernel
theorem dL_law_565 : decode cL_law 565 = .ok (.goto 1333, 3) := by decide +kernel
theorem dL_law_568 : decode cL_law 568 = .ok (.aload_n 1, 1) := by decide +kernel
theorem dL_law_569 : decode cL_law 569 = .ok (.aload_n 0, 1) := by decide +kernel
theorem dL_law_570 : decode cL_law 570 = .ok (.iload 4, 2) := by decide +kernel
theorem dL_law_572 : decode cL_law 572 = .ok (.iconst 1, 1) := by decide +kernel
theorem dL_law_573 : decode cL_law 573 = .ok (.iadd, 1) := by decide +kernel
theorem dL_law_574 : decode cL_law 574 = .ok (.iaload, 1) := by decide +kernel
theorem dL_law_575 : decode cL_law 575 = .ok (.aload_n 0, 1) := by decide +kernel
theorem dL_law_576 : decode cL_law 576 = .ok (.iload 4, 2) := by decide +kernel
theorem dL_law_578 : decode cL_law 578 = .ok (.iconst 2, 1) := by decide +kernel
theorem dL_law_579 : decode cL_law 579 = .ok (.iadd, 1) := by decide +kernel
theorem dL_law_580 : decode cL_law 580 = .ok (.iaload, 1) := by decide +kernel
theorem dL_law_581 : decode cL_law 581 = .ok (.aload_n 0, 1) := by decide +kernel
theorem dL_law_582 : decode cL_law 582 = .ok (.iload 4, 2) := by decide +kernel
theorem dL_law_584 : decode cL_law 584 = .ok (.iconst 3, 1) := by decide +kernel
theorem dL_law_585 : decode cL_law 585 = .ok (.iadd, 1) := by decide +kernel
theorem dL_law_586 : decode cL_law 586 = .ok (.iaload, 1) := by decide +kernel
theorem dL_law_587 : decode cL_law 587 = .ok (.aload_n 0, 1) := by decide +kernel
theorem dL_law_588 : decode cL_law 588 = .ok (.iload 4, 2) := by decide +kernel
theorem dL_law_590 : decode cL_law 590 = .ok (.iconst 4, 1) := by decide +kernel
theorem dL_law_591 : decode cL_law 591 = .ok (.iadd, 1) := by decide +kernel
theorem dL_law_592 : decode cL_law 592 = .ok (.iaload, 1) := by decide +kernel
theorem dL_law_593 : decode cL_law 593 = .ok (.aload_n 0, 1) := by decide +kernel
theorem dL_law_594 : decode cL_law 594 = .ok (.iload 4, 2) := by decide +kernel
theorem dL_law_596 : decode cL_law 596 = .ok (.iconst 5, 1) := by decide +kernel
theorem dL_law_597 : decode cL_law 597 = .ok (.iadd, 1) := by decide +kernel
theorem dL_law_598 : decode cL_law 598 = .ok (.iaload, 1) := by decide +kernel
theorem dL_law_599 : decode cL_law 599 = .ok (.aload_n 3, 1) := by decide +kernel
theorem dL_law_600 : decode cL_law 600 = .ok (.invokestatic 126, 3) := by decide +kernel
theorem dL_law_603 : decode cL_law 603 = .ok (.istore 5, 2) := by decide +kernel
theorem dL_law_605 : decode cL_law 605 = .ok (.aload_n 2, 1) := by decide +kernel
theorem dL_law_606 : decode cL_law 606 = .ok (.aload_n 0, 1) := by decide +kernel
theorem dL_law_607 : decode cL_law 607 = .ok (.iload 4, 2) := by decide +kernel
theorem dL_law_609 : decode cL_law 609 = .ok (.iconst 1, 1) := by decide +kernel
theorem dL_law_610 : decode cL_law 610 = .ok (.iadd, 1) := by decide +kernel
theorem dL_law_611 : decode cL_law 611 = .ok (.iaload, 1) := by decide +kernel
theorem dL_law_612 : decode cL_law 612 = .ok (.aload_n 0, 1) := by decide +kernel
theorem dL_law_613 : decode cL_law 613 = .ok (.iload 4, 2) := by decide +kernel
theorem dL_law_615 : decode cL_law 615 = .ok (.iconst 2, 1) := by decide +kernel
theorem dL_law_616 : decode cL_law 616 = .ok (.iadd, 1) := by decide +kernel
theorem dL_law_617 : decode cL_law 617 = .ok (.iaload, 1) := by decide +kernel
theorem dL_law_618 : decode cL_law 618 = .ok (.aload_n 0, 1) := by decide +kernel
theorem dL_law_619 : decode cL_law 619 = .ok (.iload 4, 2) := by decide +kernel
theorem dL_law_621 : decode cL_law 621 = .ok (.iconst 3, 1) := by decide +kernel
theorem dL_law_622 : decode cL_law 622 = .ok (.iadd, 1) := by decide +kernel
theorem dL_law_623 : decode cL_law 623 = .ok (.iaload, 1) := by decide +kernel
theorem dL_law_624 : decode cL_law 624 = .ok (.aload_n 0, 1) := by decide +kernel
theorem dL_law_625 : decode cL_law 625 = .ok (.iload 4, 2) := by decide +kernel
theorem dL_law_627 : decode cL_law 627 = .ok (.iconst 4, 1) := by decide +kernel
theorem dL_law_628 : decode cL_law 628 = .ok (.iadd, 1) := by decide +kernel
theorem dL_law_629 : decode cL_law 629 = .ok (.iaload, 1) := by decide +kernel
theorem dL_law_630 : decode cL_law 630 = .ok (.aload_n 0, 1) := by decide +kernel
theorem dL_law_631 : decode cL_law 631 = .ok (.iload 4, 2) := by decide +kernel
theorem dL_law_633 : decode cL_law 633 = .ok (.iconst 5, 1) := by decide +kernel
theorem dL_law_634 : decode cL_law 634 = .ok (.iadd, 1) := by decide +kernel
theorem dL_law_635 : decode cL_law 635 = .ok (.iaload, 1) := by decide +kernel
theorem dL_law_636 : decode cL_law 636 = .ok (.invokevirtual 129, 3) := by decide +kernel
theorem dL_law_639 : decode cL_law 639 = .ok (.istore 6, 2) := by decide +kernel
theorem dL_law_641 : decode cL_law 641 = .ok (.aload_n 2, 1) := by decide +kernel
theorem dL_law_642 : decode cL_law 642 = .ok (.invokevirtual 108, 3) := by decide +kernel
theorem dL_law_645 : decode cL_law 645 = .ok (.iload 5, 2) := by decide +kernel
theorem dL_law_647 : decode cL_law 647 = .ok (.if_icmp .eq 5, 3) := by decide +kernel
theorem dL_law_650 : decode cL_law 650 = .ok (.iconst 0, 1) := by decide +kernel
theorem dL_law_651 : decode cL_law 651 = .ok (.ireturn, 1) := by decide +kernel
theorem dL_law_652 : decode cL_law 652 = .ok (.iload 5, 2) := by decide +kernel
theorem dL_law_654 : decode cL_law 654 = .ok (.ifCond .ne 15, 3) := by decide +kernel
theorem dL_law_657 : decode cL_law 657 = .ok (.aload_n 3, 1) := by decide +kernel
theorem dL_law_658 : decode cL_law 658 = .ok (.iconst 0, 1) := by decide +kernel
theorem dL_law_659 : decode cL_law 659 = .ok (.laload, 1) := by decide +kernel
theorem dL_law_660 : decode cL_law 660 = .ok (.iload 6, 2) := by decide +kernel
theorem dL_law_662 : decode cL_law 662 = .ok (.i2l, 1) := by decide +kernel
theorem dL_law_663 : decode cL_law 663 = .ok (.lcmp, 1) := by decide +kernel
theorem dL_law_664 : decode cL_law 664 = .ok (.ifCond .eq 5, 3) := by decide +kernel
theorem dL_law_667 : decode cL_law 667 = .ok (.iconst 0, 1) := by decide +kernel
theorem dL_law_668 : decode cL_law 668 = .ok (.ireturn, 1) := by decide +kernel
theorem dL_law_669 : decode cL_law 669 = .ok (.goto 1229, 3) := by decide +kernel
theorem dL_law_672 : decode cL_law 672 = .ok (.aload_n 1, 1) := by decide +kernel
theorem dL_law_673 : decode cL_law 673 = .ok (.aload_n 0, 1) := by decide +kernel
theorem dL_law_674 : decode cL_law 674 = .ok (.iload 4, 2) := by decide +kernel
theorem dL_law_676 : decode cL_law 676 = .ok (.iconst 1, 1) := by decide +kernel
theorem dL_law_677 : decode cL_law 677 = .ok (.iadd, 1) := by decide +kernel
theorem dL_law_678 : decode cL_law 678 = .ok (.iaload, 1) := by decide +kernel
theorem dL_law_679 : decode cL_law 679 = .ok (.aload_n 0, 1) := by decide +kernel
theorem dL_law_680 : decode cL_law 680 = .ok (.iload 4, 2) := by decide +kernel
theorem dL_law_682 : decode cL_law 682 = .ok (.iconst 2, 1) := by decide +kernel
theorem dL_law_683 : decode cL_law 683 = .ok (.iadd, 1) := by decide +kernel
theorem dL_law_684 : decode cL_law 684 = .ok (.iaload, 1) := by decide +kernel
theorem dL_law_685 : decode cL_law 685 = .ok (.aload_n 0, 1) := by decide +kernel
theorem dL_law_686 : decode cL_law 686 = .ok (.iload 4, 2) := by decide +kernel
theorem dL_law_688 : decode cL_law 688 = .ok (.iconst 3, 1) := by decide +kernel
theorem dL_law_689 : decode cL_law 689 = .ok (.iadd, 1) := by decide +kernel
theorem dL_law_690 : decode cL_law 690 = .ok (.iaload, 1) := by decide +kernel
theorem dL_law_691 : decode cL_law 691 = .ok (.aload_n 3, 1) := by decide +kernel
theorem dL_law_692 : decode cL_law 692 = .ok (.invokestatic 130, 3) := by decide +kernel
theorem dL_law_695 : decode cL_law 695 = .ok (.istore 5, 2) := by decide +kernel
theorem dL_law_697 : decode cL_law 697 = .ok (.aload_n 2, 1) := by decide +kernel
theorem dL_law_698 : decode cL_law 698 = .ok (.aload_n 0, 1) := by decide +kernel
theorem dL_law_699 : decode cL_law 699 = .ok (.iload 4, 2) := by decide +kernel
theorem dL_law_701 : decode cL_law 701 = .ok (.iconst 1, 1) := by decide +kernel
theorem dL_law_702 : decode cL_law 702 = .ok (.iadd, 1) := by decide +kernel
theorem dL_law_703 : decode cL_law 703 = .ok (.iaload, 1) := by decide +kernel
theorem dL_law_704 : decode cL_law 704 = .ok (.aload_n 0, 1) := by decide +kernel
theorem dL_law_705 : decode cL_law 705 = .ok (.iload 4, 2) := by decide +kernel
theorem dL_law_707 : decode cL_law 707 = .ok (.iconst 2, 1) := by decide +kernel
theorem dL_law_708 : decode cL_law 708 = .ok (.iadd, 1) := by decide +kernel
theorem dL_law_709 : decode cL_law 709 = .ok (.iaload, 1) := by decide +kernel
theorem dL_law_710 : decode cL_law 710 = .ok (.aload_n 0, 1) := by decide +kernel
theorem dL_law_711 : decode cL_law 711 = .ok (.iload 4, 2) := by decide +kernel
theorem dL_law_713 : decode cL_law 713 = .ok (.iconst 3, 1) := by decide +kernel
theorem dL_law_714 : decode cL_law 714 = .ok (.iadd, 1) := by decide +kernel
theorem dL_law_715 : decode cL_law 715 = .ok (.iaload, 1) := by decide +kernel
theorem dL_law_716 : decode cL_law 716 = .ok (.invokevirtual 132, 3) := by decide +kernel
theorem dL_law_719 : decode cL_law 719 = .ok (.istore 6, 2) := by decide +kernel
theorem dL_law_721 : decode cL_law 721 = .ok (.aload_n 2, 1) := by decide +kernel
theorem dL_law_722 : decode cL_law 722 = .ok (.invokevirtual 108, 3) := by decide +kernel
theorem dL_law_725 : decode cL_law 725 = .ok (.iload 5, 2) := by decide +kernel
theorem dL_law_727 : decode cL_law 727 = .ok (.if_icmp .eq 5, 3) := by decide +kernel
theorem dL_law_730 : decode cL_law 730 = .ok (.iconst 0, 1) := by decide +kernel
theorem dL_law_731 : decode cL_law 731 = .ok (.ireturn, 1) := by decide +kernel
theorem dL_law_732 : decode cL_law 732 = .ok (.iload 5, 2) := by decide +kernel
theorem dL_law_734 : decode cL_law 734 = .ok (.ifCond .ne 15, 3) := by decide +kernel
theorem dL_law_737 : decode cL_law 737 = .ok (.aload_n 3, 1) := by decide +kernel
theorem dL_law_738 : decode cL_law 738 = .ok (.iconst 0, 1) := by decide +kernel
theorem dL_law_739 : decode cL_law 739 = .ok (.laload, 1) := by decide +kernel
theorem dL_law_740 : decode cL_law 740 = .ok (.iload 6, 2) := by decide +kernel
theorem dL_law_742 : decode cL_law 742 = .ok (.i2l, 1) := by decide +kernel
theorem dL_law_743 : decode cL_law 743 = .ok (.lcmp, 1) := by decide +kernel
theorem dL_law_744 : decode cL_law 744 = .ok (.ifCond .eq 5, 3) := by decide +kernel
theorem dL_law_747 : decode cL_law 747 = .ok (.iconst 0, 1) := by decide +kernel
theorem dL_law_748 : decode cL_law 748 = .ok (.ireturn, 1) := by decide +kernel
theorem dL_law_749 : decode cL_law 749 = .ok (.goto 1149, 3) := by decide +kernel
theorem dL_law_752 : decode cL_law 752 = .ok (.aload_n 1, 1) := by decide +kernel
theorem dL_law_753 : decode cL_law 753 = .ok (.aload_n 0, 1) := by decide +kernel
theorem dL_law_754 : decode cL_law 754 = .ok (.iload 4, 2) := by decide +kernel
theorem dL_law_756 : decode cL_law 756 = .ok (.iconst 1, 1) := by decide +kernel
theorem dL_law_757 : decode cL_law 757 = .ok (.iadd, 1) := by decide +kernel
theorem dL_law_758 : decode cL_law 758 = .ok (.iaload, 1) := by decide +kernel
theorem dL_law_759 : decode cL_law 759 = .ok (.aload_n 0, 1) := by decide +kernel
theorem dL_law_760 : decode cL_law 760 = .ok (.iload 4, 2) := by decide +kernel
theorem dL_law_762 : decode cL_law 762 = .ok (.iconst 2, 1) := by decide +kernel
theorem dL_law_763 : decode cL_law 763 = .ok (.iadd, 1) := by decide +kernel
theorem dL_law_764 : decode cL_law 764 = .ok (.iaload, 1) := by decide +kernel
theorem dL_law_765 : decode cL_law 765 = .ok (.aload_n 3, 1) := by decide +kernel
theorem dL_law_766 : decode cL_law 766 = .ok (.invokestatic 133, 3) := by decide +kernel
theorem dL_law_769 : decode cL_law 769 = .ok (.istore 5, 2) := by decide +kernel
theorem dL_law_771 : decode cL_law 771 = .ok (.aload_n 2, 1) := by decide +kernel
theorem dL_law_772 : decode cL_law 772 = .ok (.aload_n 0, 1) := by decide +kernel
theorem dL_law_773 : decode cL_law 773 = .ok (.iload 4, 2) := by decide +kernel
theorem dL_law_775 : decode cL_law 775 = .ok (.iconst 1, 1) := by decide +kernel
theorem dL_law_776 : decode cL_law 776 = .ok (.iadd, 1) := by decide +kernel
theorem dL_law_777 : decode cL_law 777 = .ok (.iaload, 1) := by decide +kernel
theorem dL_law_778 : decode cL_law 778 = .ok (.aload_n 0, 1) := by decide +kernel
theorem dL_law_779 : decode cL_law 779 = .ok (.iload 4, 2) := by decide +kernel
theorem dL_law_781 : decode cL_law 781 = .ok (.iconst 2, 1) := by decide +kernel
theorem dL_law_782 : decode cL_law 782 = .ok (.iadd, 1) := by decide +kernel
theorem dL_law_783 : decode cL_law 783 = .ok (.iaload, 1) := by decide +kernel
theorem dL_law_784 : decode cL_law 784 = .ok (.invokevirtual 135, 3) := by decide +kernel
theorem dL_law_787 : decode cL_law 787 = .ok (.istore 6, 2) := by decide +kernel
theorem dL_law_789 : decode cL_law 789 = .ok (.aload_n 2, 1) := by decide +kernel
theorem dL_law_790 : decode cL_law 790 = .ok (.invokevirtual 108, 3) := by decide +kernel
theorem dL_law_793 : decode cL_law 793 = .ok (.iload 5, 2) := by decide +kernel
theorem dL_law_795 : decode cL_law 795 = .ok (.if_icmp .eq 5, 3) := by decide +kernel
theorem dL_law_798 : decode cL_law 798 = .ok (.iconst 0, 1) := by decide +kernel
theorem dL_law_799 : decode cL_law 799 = .ok (.ireturn, 1) := by decide +kernel
theorem dL_law_800 : decode cL_law 800 = .ok (.iload 5, 2) := by decide +kernel
theorem dL_law_802 : decode cL_law 802 = .ok (.ifCond .ne 22, 3) := by decide +kernel
theorem dL_law_805 : decode cL_law 805 = .ok (.aload_n 3, 1) := by decide +kernel
theorem dL_law_806 : decode cL_law 806 = .ok (.iconst 0, 1) := by decide +kernel
theorem dL_law_807 : decode cL_law 807 = .ok (.laload, 1) := by decide +kernel
theorem dL_law_808 : decode cL_law 808 = .ok (.iload 6, 2) := by decide +kernel
theorem dL_law_810 : decode cL_law 810 = .ok (.ifCond .eq 7, 3) := by decide +kernel
theorem dL_law_813 : decode cL_law 813 = .ok (.lconst 1, 1) := by decide +kernel
theorem dL_law_814 : decode cL_law 814 = .ok (.goto 4, 3) := by decide +kernel
theorem dL_law_817 : decode cL_law 817 = .ok (.lconst 0, 1) := by decide +kernel
theorem dL_law_818 : decode cL_law 818 = .ok (.lcmp, 1) := by decide +kernel
theorem dL_law_819 : decode cL_law 819 = .ok (.ifCond .eq 5, 3) := by decide +kernel
theorem dL_law_822 : decode cL_law 822 = .ok (.iconst 0, 1) := by decide +kernel
theorem dL_law_823 : decode cL_law 823 = .ok (.ireturn, 1) := by decide +kernel
theorem dL_law_824 : decode cL_law 824 = .ok (.goto 1074, 3) := by decide +kernel
theorem dL_law_827 : decode cL_law 827 = .ok (.aload_n 1, 1) := by decide +kernel
theorem dL_law_828 : decode cL_law 828 = .ok (.aload_n 0, 1) := by decide +kernel
theorem dL_law_829 : decode cL_law 829 = .ok (.iload 4, 2) := by decide +kernel
theorem dL_law_831 : decode cL_law 831 = .ok (.iconst 1, 1) := by decide +kernel
theorem dL_law_832 : decode cL_law 832 = .ok (.iadd, 1) := by decide +kernel
theorem dL_law_833 : decode cL_law 833 = .ok (.iaload, 1) := by decide +kernel
theorem dL_law_834 : decode cL_law 834 = .ok (.aload_n 0, 1) := by decide +kernel
theorem dL_law_835 : decode cL_law 835 = .ok (.iload 4, 2) := by decide +kernel
theorem dL_law_837 : decode cL_law 837 = .ok (.iconst 2, 1) := by decide +kernel
theorem dL_law_838 : decode cL_law 838 = .ok (.iadd, 1) := by decide +kernel
theorem dL_law_839 : decode cL_law 839 = .ok (.iaload, 1) := by decide +kernel
theorem dL_law_840 : decode cL_law 840 = .ok (.aload_n 0, 1) := by decide +kernel
theorem dL_law_841 : decode cL_law 841 = .ok (.iload 4, 2) := by decide +kernel
theorem dL_law_843 : decode cL_law 843 = .ok (.iconst 3, 1) := by decide +kernel
theorem dL_law_844 : decode cL_law 844 = .ok (.iadd, 1) := by decide +kernel
theorem dL_law_845 : decode cL_law 845 = .ok (.iaload, 1) := by decide +kernel
theorem dL_law_846 : decode cL_law 846 = .ok (.aload_n 0, 1) := by decide +kernel
theorem dL_law_847 : decode cL_law 847 = .ok (.iload 4, 2) := by decide +kernel
theorem dL_law_849 : decode cL_law 849 = .ok (.iconst 4, 1) := by decide +kernel
theorem dL_law_850 : decode cL_law 850 = .ok (.iadd, 1) := by decide +kernel
theorem dL_law_851 : decode cL_law 851 = .ok (.iaload, 1) := by decide +kernel
theorem dL_law_852 : decode cL_law 852 = .ok (.aload_n 0, 1) := by decide +kernel
theorem dL_law_853 : decode cL_law 853 = .ok (.iload 4, 2) := by decide +kernel
theorem dL_law_855 : decode cL_law 855 = .ok (.iconst 5, 1) := by decide +kernel
theorem dL_law_856 : decode cL_law 856 = .ok (.iadd, 1) := by decide +kernel
theorem dL_law_857 : decode cL_law 857 = .ok (.iaload, 1) := by decide +kernel
theorem dL_law_858 : decode cL_law 858 = .ok (.aload_n 0, 1) := by decide +kernel
theorem dL_law_859 : decode cL_law 859 = .ok (.iload 4, 2) := by decide +kernel
theorem dL_law_861 : decode cL_law 861 = .ok (.bipush 6, 2) := by decide +kernel
theorem dL_law_863 : decode cL_law 863 = .ok (.iadd, 1) := by decide +kernel
theorem dL_law_864 : decode cL_law 864 = .ok (.iaload, 1) := by decide +kernel
theorem dL_law_865 : decode cL_law 865 = .ok (.aload_n 0, 1) := by decide +kernel
theorem dL_law_866 : decode cL_law 866 = .ok (.iload 4, 2) := by decide +kernel
theorem dL_law_868 : decode cL_law 868 = .ok (.bipush 7, 2) := by decide +kernel
theorem dL_law_870 : decode cL_law 870 = .ok (.iadd, 1) := by decide +kernel
theorem dL_law_871 : decode cL_law 871 = .ok (.iaload, 1) := by decide +kernel
theorem dL_law_872 : decode cL_law 872 = .ok (.aload_n 3, 1) := by decide +kernel
theorem dL_law_873 : decode cL_law 873 = .ok (.invokestatic 136, 3) := by decide +kernel
theorem dL_law_876 : decode cL_law 876 = .ok (.istore 5, 2) := by decide +kernel
theorem dL_law_878 : decode cL_law 878 = .ok (.aload_n 2, 1) := by decide +kernel
theorem dL_law_879 : decode cL_law 879 = .ok (.aload_n 0, 1) := by decide +kernel
theorem dL_law_880 : decode cL_law 880 = .ok (.iload 4, 2) := by decide +kernel
theorem dL_law_882 : decode cL_law 882 = .ok (.iconst 1, 1) := by decide +kernel
theorem dL_law_883 : decode cL_law 883 = .ok (.iadd, 1) := by decide +kernel
theorem dL_law_884 : decode cL_law 884 = .ok (.iaload, 1) := by decide +kernel
theorem dL_law_885 : decode cL_law 885 = .ok (.aload_n 0, 1) := by decide +kernel
theorem dL_law_886 : decode cL_law 886 = .ok (.iload 4, 2) := by decide +kernel
theorem dL_law_888 : decode cL_law 888 = .ok (.iconst 2, 1) := by decide +kernel
theorem dL_law_889 : decode cL_law 889 = .ok (.iadd, 1) := by decide +kernel
theorem dL_law_890 : decode cL_law 890 = .ok (.iaload, 1) := by decide +kernel
theorem dL_law_891 : decode cL_law 891 = .ok (.aload_n 0, 1) := by decide +kernel
theorem dL_law_892 : decode cL_law 892 = .ok (.iload 4, 2) := by decide +kernel
theorem dL_law_894 : decode cL_law 894 = .ok (.iconst 3, 1) := by decide +kernel
theorem dL_law_895 : decode cL_law 895 = .ok (.iadd, 1) := by decide +kernel
theorem dL_law_896 : decode cL_law 896 = .ok (.iaload, 1) := by decide +kernel
theorem dL_law_897 : decode cL_law 897 = .ok (.aload_n 0, 1) := by decide +kernel
theorem dL_law_898 : decode cL_law 898 = .ok (.iload 4, 2) := by decide +kernel
theorem dL_law_900 : decode cL_law 900 = .ok (.iconst 4, 1) := by decide +kernel
theorem dL_law_901 : decode cL_law 901 = .ok (.iadd, 1) := by decide +kernel
theorem dL_law_902 : decode cL_law 902 = .ok (.iaload, 1) := by decide +kernel
theorem dL_law_903 : decode cL_law 903 = .ok (.aload_n 0, 1) := by decide +kernel
theorem dL_law_904 : decode cL_law 904 = .ok (.iload 4, 2) := by decide +kernel
theorem dL_law_906 : decode cL_law 906 = .ok (.iconst 5, 1) := by decide +kernel
theorem dL_law_907 : decode cL_law 907 = .ok (.iadd, 1) := by decide +kernel
theorem dL_law_908 : decode cL_law 908 = .ok (.iaload, 1) := by decide +kernel
theorem dL_law_909 : decode cL_law 909 = .ok (.aload_n 0, 1) := by decide +kernel
theorem dL_law_910 : decode cL_law 910 = .ok (.iload 4, 2) := by decide +kernel
theorem dL_law_912 : decode cL_law 912 = .ok (.bipush 6, 2) := by decide +kernel
theorem dL_law_914 : decode cL_law 914 = .ok (.iadd, 1) := by decide +kernel
theorem dL_law_915 : decode cL_law 915 = .ok (.iaload, 1) := by decide +kernel
theorem dL_law_916 : decode cL_law 916 = .ok (.aload_n 0, 1) := by decide +kernel
theorem dL_law_917 : decode cL_law 917 = .ok (.iload 4, 2) := by decide +kernel
theorem dL_law_919 : decode cL_law 919 = .ok (.bipush 7, 2) := by decide +kernel
theorem dL_law_921 : decode cL_law 921 = .ok (.iadd, 1) := by decide +kernel
theorem dL_law_922 : decode cL_law 922 = .ok (.iaload, 1) := by decide +kernel
theorem dL_law_923 : decode cL_law 923 = .ok (.invokevirtual 139, 3) := by decide +kernel
theorem dL_law_926 : decode cL_law 926 = .ok (.istore 6, 2) := by decide +kernel
theorem dL_law_928 : decode cL_law 928 = .ok (.aload_n 2, 1) := by decide +kernel
theorem dL_law_929 : decode cL_law 929 = .ok (.invokevirtual 108, 3) := by decide +kernel
theorem dL_law_932 : decode cL_law 932 = .ok (.iload 5, 2) := by decide +kernel
theorem dL_law_934 : decode cL_law 934 = .ok (.if_icmp .eq 5, 3) := by decide +kernel
theorem dL_law_937 : decode cL_law 937 = .ok (.iconst 0, 1) := by decide +kernel
theorem dL_law_938 : decode cL_law 938 = .ok (.ireturn, 1) := by decide +kernel
theorem dL_law_939 : decode cL_law 939 = .ok (.iload 5, 2) := by decide +kernel
theorem dL_law_941 : decode cL_law 941 = .ok (.ifCond .ne 15, 3) := by decide +kernel
theorem dL_law_944 : decode cL_law 944 = .ok (.aload_n 3, 1) := by decide +kernel
theorem dL_law_945 : decode cL_law 945 = .ok (.iconst 0, 1) := by decide +kernel
theorem dL_law_946 : decode cL_law 946 = .ok (.laload, 1) := by decide +kernel
theorem dL_law_947 : decode cL_law 947 = .ok (.iload 6, 2) := by decide +kernel
theorem dL_law_949 : decode cL_law 949 = .ok (.i2l, 1) := by decide +kernel
theorem dL_law_950 : decode cL_law 950 = .ok (.lcmp, 1) := by decide +kernel
theorem dL_law_951 : decode cL_law 951 = .ok (.ifCond .eq 5, 3) := by decide +kernel
theorem dL_law_954 : decode cL_law 954 = .ok (.iconst 0, 1) := by decide +kernel
theorem dL_law_955 : decode cL_law 955 = .ok (.ireturn, 1) := by decide +kernel
theorem dL_law_956 : decode cL_law 956 = .ok (.goto 942, 3) := by decide +kernel
theorem dL_law_959 : decode cL_law 959 = .ok (.aload_n 1, 1) := by decide +kernel
theorem dL_law_960 : decode cL_law 960 = .ok (.aload_n 0, 1) := by decide +kernel
theorem dL_law_961 : decode cL_law 961 = .ok (.iload 4, 2) := by decide +kernel
theorem dL_law_963 : decode cL_law 963 = .ok (.iconst 1, 1) := by decide +kernel
theorem dL_law_964 : decode cL_law 964 = .ok (.iadd, 1) := by decide +kernel
theorem dL_law_965 : decode cL_law 965 = .ok (.iaload, 1) := by decide +kernel
theorem dL_law_966 : decode cL_law 966 = .ok (.aload_n 0, 1) := by decide +kernel
theorem dL_law_967 : decode cL_law 967 = .ok (.iload 4, 2) := by decide +kernel
theorem dL_law_969 : decode cL_law 969 = .ok (.iconst 2, 1) := by decide +kernel
theorem dL_law_970 : decode cL_law 970 = .ok (.iadd, 1) := by decide +kernel
theorem dL_law_971 : decode cL_law 971 = .ok (.iaload, 1) := by decide +kernel
theorem dL_law_972 : decode cL_law 972 = .ok (.aload_n 0, 1) := by decide +kernel
theorem dL_law_973 : decode cL_law 973 = .ok (.iload 4, 2) := by decide +kernel
theorem dL_law_975 : decode cL_law 975 = .ok (.iconst 3, 1) := by decide +kernel
theorem dL_law_976 : decode cL_law 976 = .ok (.iadd, 1) := by decide +kernel
theorem dL_law_977 : decode cL_law 977 = .ok (.iaload, 1) := by decide +kernel
theorem dL_law_978 : decode cL_law 978 = .ok (.aload_n 0, 1) := by decide +kernel
theorem dL_law_979 : decode cL_law 979 = .ok (.iload 4, 2) := by decide +kernel
theorem dL_law_981 : decode cL_law 981 = .ok (.iconst 4, 1) := by decide +kernel
theorem dL_law_982 : decode cL_law 982 = .ok (.iadd, 1) := by decide +kernel
theorem dL_law_983 : decode cL_law 983 = .ok (.iaload, 1) := by decide +kernel
theorem dL_law_984 : decode cL_law 984 = .ok (.aload_n 3, 1) := by decide +kernel
theorem dL_law_985 : decode cL_law 985 = .ok (.invokestatic 140, 3) := by decide +kernel
theorem dL_law_988 : decode cL_law 988 = .ok (.istore 5, 2) := by decide +kernel
theorem dL_law_990 : decode cL_law 990 = .ok (.aload_n 2, 1) := by decide +kernel
theorem dL_law_991 : decode cL_law 991 = .ok (.aload_n 0, 1) := by decide +kernel
theorem dL_law_992 : decode cL_law 992 = .ok (.iload 4, 2) := by decide +kernel
theorem dL_law_994 : decode cL_law 994 = .ok (.iconst 1, 1) := by decide +kernel
theorem dL_law_995 : decode cL_law 995 = .ok (.iadd, 1) := by decide +kernel
theorem dL_law_996 : decode cL_law 996 = .ok (.iaload, 1) := by decide +kernel
theorem dL_law_997 : decode cL_law 997 = .ok (.aload_n 0, 1) := by decide +kernel
theorem dL_law_998 : decode cL_law 998 = .ok (.iload 4, 2) := by decide +kernel
theorem dL_law_1000 : decode cL_law 1000 = .ok (.iconst 2, 1) := by decide +kernel
theorem dL_law_1001 : decode cL_law 1001 = .ok (.iadd, 1) := by decide +kernel
theorem dL_law_1002 : decode cL_law 1002 = .ok (.iaload, 1) := by decide +kernel
theorem dL_law_1003 : decode cL_law 1003 = .ok (.aload_n 0, 1) := by decide +kernel
theorem dL_law_1004 : decode cL_law 1004 = .ok (.iload 4, 2) := by decide +kernel
theorem dL_law_1006 : decode cL_law 1006 = .ok (.iconst 3, 1) := by decide +kernel
theorem dL_law_1007 : decode cL_law 1007 = .ok (.iadd, 1) := by decide +kernel
theorem dL_law_1008 : decode cL_law 1008 = .ok (.iaload, 1) := by decide +kernel
theorem dL_law_1009 : decode cL_law 1009 = .ok (.aload_n 0, 1) := by decide +kernel
theorem dL_law_1010 : decode cL_law 1010 = .ok (.iload 4, 2) := by decide +kernel
theorem dL_law_1012 : decode cL_law 1012 = .ok (.iconst 4, 1) := by decide +kernel
theorem dL_law_1013 : decode cL_law 1013 = .ok (.iadd, 1) := by decide +kernel
theorem dL_law_1014 : decode cL_law 1014 = .ok (.iaload, 1) := by decide +kernel
theorem dL_law_1015 : decode cL_law 1015 = .ok (.invokevirtual 143, 3) := by decide +kernel
theorem dL_law_1018 : decode cL_law 1018 = .ok (.istore 6, 2) := by decide +kernel
theorem dL_law_1020 : decode cL_law 1020 = .ok (.aload_n 2, 1) := by decide +kernel
theorem dL_law_1021 : decode cL_law 1021 = .ok (.invokevirtual 108, 3) := by decide +kernel
theorem dL_law_1024 : decode cL_law 1024 = .ok (.iload 5, 2) := by decide +kernel
theorem dL_law_1026 : decode cL_law 1026 = .ok (.if_icmp .eq 5, 3) := by decide +kernel
theorem dL_law_1029 : decode cL_law 1029 = .ok (.iconst 0, 1) := by decide +kernel
theorem dL_law_1030 : decode cL_law 1030 = .ok (.ireturn, 1) := by decide +kernel
theorem dL_law_1031 : decode cL_law 1031 = .ok (.iload 5, 2) := by decide +kernel
theorem dL_law_1033 : decode cL_law 1033 = .ok (.ifCond .ne 15, 3) := by decide +kernel
theorem dL_law_1036 : decode cL_law 1036 = .ok (.aload_n 3, 1) := by decide +kernel
theorem dL_law_1037 : decode cL_law 1037 = .ok (.iconst 0, 1) := by decide +kernel
theorem dL_law_1038 : decode cL_law 1038 = .ok (.laload, 1) := by decide +kernel
theorem dL_law_1039 : decode cL_law 1039 = .ok (.iload 6, 2) := by decide +kernel
theorem dL_law_1041 : decode cL_law 1041 = .ok (.i2l, 1) := by decide +kernel
theorem dL_law_1042 : decode cL_law 1042 = .ok (.lcmp, 1) := by decide +kernel
theorem dL_law_1043 : decode cL_law 1043 = .ok (.ifCond .eq 5, 3) := by decide +kernel
theorem dL_law_1046 : decode cL_law 1046 = .ok (.iconst 0, 1) := by decide +kernel
theorem dL_law_1047 : decode cL_law 1047 = .ok (.ireturn, 1) := by decide +kernel
theorem dL_law_1048 : decode cL_law 1048 = .ok (.goto 850, 3) := by decide +kernel
theorem dL_law_1051 : decode cL_law 1051 = .ok (.aload_n 1, 1) := by decide +kernel
theorem dL_law_1052 : decode cL_law 1052 = .ok (.aload_n 0, 1) := by decide +kernel
theorem dL_law_1053 : decode cL_law 1053 = .ok (.iload 4, 2) := by decide +kernel
theorem dL_law_1055 : decode cL_law 1055 = .ok (.iconst 1, 1) := by decide +kernel
theorem dL_law_1056 : decode cL_law 1056 = .ok (.iadd, 1) := by decide +kernel
theorem dL_law_1057 : decode cL_law 1057 = .ok (.iaload, 1) := by decide +kernel
theorem dL_law_1058 : decode cL_law 1058 = .ok (.aload_n 0, 1) := by decide +kernel
theorem dL_law_1059 : decode cL_law 1059 = .ok (.iload 4, 2) := by decide +kernel
theorem dL_law_1061 : decode cL_law 1061 = .ok (.iconst 2, 1) := by decide +kernel
theorem dL_law_1062 : decode cL_law 1062 = .ok (.iadd, 1) := by decide +kernel
theorem dL_law_1063 : decode cL_law 1063 = .ok (.iaload, 1) := by decide +kernel
theorem dL_law_1064 : decode cL_law 1064 = .ok (.aload_n 3, 1) := by decide +kernel
theorem dL_law_1065 : decode cL_law 1065 = .ok (.invokestatic 144, 3) := by decide +kernel
theorem dL_law_1068 : decode cL_law 1068 = .ok (.istore 5, 2) := by decide +kernel
theorem dL_law_1070 : decode cL_law 1070 = .ok (.aload_n 2, 1) := by decide +kernel
theorem dL_law_1071 : decode cL_law 1071 = .ok (.aload_n 0, 1) := by decide +kernel
theorem dL_law_1072 : decode cL_law 1072 = .ok (.iload 4, 2) := by decide +kernel
theorem dL_law_1074 : decode cL_law 1074 = .ok (.iconst 1, 1) := by decide +kernel
theorem dL_law_1075 : decode cL_law 1075 = .ok (.iadd, 1) := by decide +kernel
theorem dL_law_1076 : decode cL_law 1076 = .ok (.iaload, 1) := by decide +kernel
theorem dL_law_1077 : decode cL_law 1077 = .ok (.aload_n 0, 1) := by decide +kernel
theorem dL_law_1078 : decode cL_law 1078 = .ok (.iload 4, 2) := by decide +kernel
theorem dL_law_1080 : decode cL_law 1080 = .ok (.iconst 2, 1) := by decide +kernel
theorem dL_law_1081 : decode cL_law 1081 = .ok (.iadd, 1) := by decide +kernel
theorem dL_law_1082 : decode cL_law 1082 = .ok (.iaload, 1) := by decide +kernel
theorem dL_law_1083 : decode cL_law 1083 = .ok (.invokevirtual 146, 3) := by decide +kernel
theorem dL_law_1086 : decode cL_law 1086 = .ok (.istore 6, 2) := by decide +kernel
theorem dL_law_1088 : decode cL_law 1088 = .ok (.aload_n 2, 1) := by decide +kernel
theorem dL_law_1089 : decode cL_law 1089 = .ok (.invokevirtual 108, 3) := by decide +kernel
theorem dL_law_1092 : decode cL_law 1092 = .ok (.iload 5, 2) := by decide +kernel
theorem dL_law_1094 : decode cL_law 1094 = .ok (.if_icmp .eq 5, 3) := by decide +kernel
theorem dL_law_1097 : decode cL_law 1097 = .ok (.iconst 0, 1) := by decide +kernel
theorem dL_law_1098 : decode cL_law 1098 = .ok (.ireturn, 1) := by decide +kernel
theorem dL_law_1099 : decode cL_law 1099 = .ok (.iload 5, 2) := by decide +kernel
theorem dL_law_1101 : decode cL_law 1101 = .ok (.ifCond .ne 15, 3) := by decide +kernel
theorem dL_law_1104 : decode cL_law 1104 = .ok (.aload_n 3, 1) := by decide +kernel
theorem dL_law_1105 : decode cL_law 1105 = .ok (.iconst 0, 1) := by decide +kernel
theorem dL_law_1106 : decode cL_law 1106 = .ok (.laload, 1) := by decide +kernel
theorem dL_law_1107 : decode cL_law 1107 = .ok (.iload 6, 2) := by decide +kernel
theorem dL_law_1109 : decode cL_law 1109 = .ok (.i2l, 1) := by decide +kernel
theorem dL_law_1110 : decode cL_law 1110 = .ok (.lcmp, 1) := by decide +kernel
theorem dL_law_1111 : decode cL_law 1111 = .ok (.ifCond .eq 5, 3) := by decide +kernel
theorem dL_law_1114 : decode cL_law 1114 = .ok (.iconst 0, 1) := by decide +kernel
theorem dL_law_1115 : decode cL_law 1115 = .ok (.ireturn, 1) := by decide +kernel
theorem dL_law_1116 : decode cL_law 1116 = .ok (.goto 782, 3) := by decide +kernel
theorem dL_law_1119 : decode cL_law 1119 = .ok (.aload_n 1, 1) := by decide +kernel
theorem dL_law_1120 : decode cL_law 1120 = .ok (.aload_n 0, 1) := by decide +kernel
theorem dL_law_1121 : decode cL_law 1121 = .ok (.iload 4, 2) := by decide +kernel
theorem dL_law_1123 : decode cL_law 1123 = .ok (.iconst 1, 1) := by decide +kernel
theorem dL_law_1124 : decode cL_law 1124 = .ok (.iadd, 1) := by decide +kernel
theorem dL_law_1125 : decode cL_law 1125 = .ok (.iaload, 1) := by decide +kernel
theorem dL_law_1126 : decode cL_law 1126 = .ok (.aload_n 3, 1) := by decide +kernel
theorem dL_law_1127 : decode cL_law 1127 = .ok (.invokestatic 147, 3) := by decide +kernel
theorem dL_law_1130 : decode cL_law 1130 = .ok (.istore 5, 2) := by decide +kernel
theorem dL_law_1132 : decode cL_law 1132 = .ok (.aload_n 2, 1) := by decide +kernel
theorem dL_law_1133 : decode cL_law 1133 = .ok (.aload_n 0, 1) := by decide +kernel
theorem dL_law_1134 : decode cL_law 1134 = .ok (.iload 4, 2) := by decide +kernel
theorem dL_law_1136 : decode cL_law 1136 = .ok (.iconst 1, 1) := by decide +kernel
theorem dL_law_1137 : decode cL_law 1137 = .ok (.iadd, 1) := by decide +kernel
theorem dL_law_1138 : decode cL_law 1138 = .ok (.iaload, 1) := by decide +kernel
theorem dL_law_1139 : decode cL_law 1139 = .ok (.invokevirtual 149, 3) := by decide +kernel
theorem dL_law_1142 : decode cL_law 1142 = .ok (.istore 6, 2) := by decide +kernel
theorem dL_law_1144 : decode cL_law 1144 = .ok (.aload_n 2, 1) := by decide +kernel
theorem dL_law_1145 : decode cL_law 1145 = .ok (.invokevirtual 108, 3) := by decide +kernel
theorem dL_law_1148 : decode cL_law 1148 = .ok (.iload 5, 2) := by decide +kernel
theorem dL_law_1150 : decode cL_law 1150 = .ok (.if_icmp .eq 5, 3) := by decide +kernel
theorem dL_law_1153 : decode cL_law 1153 = .ok (.iconst 0, 1) := by decide +kernel
theorem dL_law_1154 : decode cL_law 1154 = .ok (.ireturn, 1) := by decide +kernel
theorem dL_law_1155 : decode cL_law 1155 = .ok (.iload 5, 2) := by decide +kernel
theorem dL_law_1157 : decode cL_law 1157 = .ok (.ifCond .ne 15, 3) := by decide +kernel
theorem dL_law_1160 : decode cL_law 1160 = .ok (.aload_n 3, 1) := by decide +kernel
theorem dL_law_1161 : decode cL_law 1161 = .ok (.iconst 0, 1) := by decide +kernel
theorem dL_law_1162 : decode cL_law 1162 = .ok (.laload, 1) := by decide +kernel
theorem dL_law_1163 : decode cL_law 1163 = .ok (.iload 6, 2) := by decide +kernel
theorem dL_law_1165 : decode cL_law 1165 = .ok (.i2l, 1) := by decide +kernel
theorem dL_law_1166 : decode cL_law 1166 = .ok (.lcmp, 1) := by decide +kernel
theorem dL_law_1167 : decode cL_law 1167 = .ok (.ifCond .eq 5, 3) := by decide +kernel
theorem dL_law_1170 : decode cL_law 1170 = .ok (.iconst 0, 1) := by decide +kernel
theorem dL_law_1171 : decode cL_law 1171 = .ok (.ireturn, 1) := by decide +kernel
theorem dL_law_1172 : decode cL_law 1172 = .ok (.goto 726, 3) := by decide +kernel
theorem dL_law_1175 : decode cL_law 1175 = .ok (.aload_n 1, 1) := by decide +kernel
theorem dL_law_1176 : decode cL_law 1176 = .ok (.aload_n 0, 1) := by decide +kernel
theorem dL_law_1177 : decode cL_law 1177 = .ok (.iload 4, 2) := by decide +kernel
theorem dL_law_1179 : decode cL_law 1179 = .ok (.iconst 1, 1) := by decide +kernel
theorem dL_law_1180 : decode cL_law 1180 = .ok (.iadd, 1) := by decide +kernel
theorem dL_law_1181 : decode cL_law 1181 = .ok (.iaload, 1) := by decide +kernel
theorem dL_law_1182 : decode cL_law 1182 = .ok (.aload_n 0, 1) := by decide +kernel
theorem dL_law_1183 : decode cL_law 1183 = .ok (.iload 4, 2) := by decide +kernel
theorem dL_law_1185 : decode cL_law 1185 = .ok (.iconst 2, 1) := by decide +kernel
theorem dL_law_1186 : decode cL_law 1186 = .ok (.iadd, 1) := by decide +kernel
theorem dL_law_1187 : decode cL_law 1187 = .ok (.iaload, 1) := by decide +kernel
theorem dL_law_1188 : decode cL_law 1188 = .ok (.aload_n 3, 1) := by decide +kernel
theorem dL_law_1189 : decode cL_law 1189 = .ok (.invokestatic 150, 3) := by decide +kernel
theorem dL_law_1192 : decode cL_law 1192 = .ok (.istore 5, 2) := by decide +kernel
theorem dL_law_1194 : decode cL_law 1194 = .ok (.aload_n 2, 1) := by decide +kernel
theorem dL_law_1195 : decode cL_law 1195 = .ok (.aload_n 0, 1) := by decide +kernel
theorem dL_law_1196 : decode cL_law 1196 = .ok (.iload 4, 2) := by decide +kernel
theorem dL_law_1198 : decode cL_law 1198 = .ok (.iconst 1, 1) := by decide +kernel
theorem dL_law_1199 : decode cL_law 1199 = .ok (.iadd, 1) := by decide +kernel
theorem dL_law_1200 : decode cL_law 1200 = .ok (.iaload, 1) := by decide +kernel
theorem dL_law_1201 : decode cL_law 1201 = .ok (.aload_n 0, 1) := by decide +kernel
theorem dL_law_1202 : decode cL_law 1202 = .ok (.iload 4, 2) := by decide +kernel
theorem dL_law_1204 : decode cL_law 1204 = .ok (.iconst 2, 1) := by decide +kernel
theorem dL_law_1205 : decode cL_law 1205 = .ok (.iadd, 1) := by decide +kernel
theorem dL_law_1206 : decode cL_law 1206 = .ok (.iaload, 1) := by decide +kernel
theorem dL_law_1207 : decode cL_law 1207 = .ok (.invokevirtual 152, 3) := by decide +kernel
theorem dL_law_1210 : decode cL_law 1210 = .ok (.istore 6, 2) := by decide +kernel
theorem dL_law_1212 : decode cL_law 1212 = .ok (.aload_n 2, 1) := by decide +kernel
theorem dL_law_1213 : decode cL_law 1213 = .ok (.invokevirtual 108, 3) := by decide +kernel
theorem dL_law_1216 : decode cL_law 1216 = .ok (.iload 5, 2) := by decide +kernel
theorem dL_law_1218 : decode cL_law 1218 = .ok (.if_icmp .eq 5, 3) := by decide +kernel
theorem dL_law_1221 : decode cL_law 1221 = .ok (.iconst 0, 1) := by decide +kernel
theorem dL_law_1222 : decode cL_law 1222 = .ok (.ireturn, 1) := by decide +kernel
theorem dL_law_1223 : decode cL_law 1223 = .ok (.iload 5, 2) := by decide +kernel
theorem dL_law_1225 : decode cL_law 1225 = .ok (.ifCond .ne 15, 3) := by decide +kernel
theorem dL_law_1228 : decode cL_law 1228 = .ok (.aload_n 3, 1) := by decide +kernel
theorem dL_law_1229 : decode cL_law 1229 = .ok (.iconst 0, 1) := by decide +kernel
theorem dL_law_1230 : decode cL_law 1230 = .ok (.laload, 1) := by decide +kernel
theorem dL_law_1231 : decode cL_law 1231 = .ok (.iload 6, 2) := by decide +kernel
theorem dL_law_1233 : decode cL_law 1233 = .ok (.i2l, 1) := by decide +kernel
theorem dL_law_1234 : decode cL_law 1234 = .ok (.lcmp, 1) := by decide +kernel
theorem dL_law_1235 : decode cL_law 1235 = .ok (.ifCond .eq 5, 3) := by decide +kernel
theorem dL_law_1238 : decode cL_law 1238 = .ok (.iconst 0, 1) := by decide +kernel
theorem dL_law_1239 : decode cL_law 1239 = .ok (.ireturn, 1) := by decide +kernel
theorem dL_law_1240 : decode cL_law 1240 = .ok (.goto 658, 3) := by decide +kernel
theorem dL_law_1243 : decode cL_law 1243 = .ok (.aload_n 1, 1) := by decide +kernel
theorem dL_law_1244 : decode cL_law 1244 = .ok (.aload_n 0, 1) := by decide +kernel
theorem dL_law_1245 : decode cL_law 1245 = .ok (.iload 4, 2) := by decide +kernel
theorem dL_law_1247 : decode cL_law 1247 = .ok (.iconst 1, 1) := by decide +kernel
theorem dL_law_1248 : decode cL_law 1248 = .ok (.iadd, 1) := by decide +kernel
theorem dL_law_1249 : decode cL_law 1249 = .ok (.iaload, 1) := by decide +kernel
theorem dL_law_1250 : decode cL_law 1250 = .ok (.aload_n 3, 1) := by decide +kernel
theorem dL_law_1251 : decode cL_law 1251 = .ok (.invokestatic 153, 3) := by decide +kernel
theorem dL_law_1254 : decode cL_law 1254 = .ok (.istore 5, 2) := by decide +kernel
theorem dL_law_1256 : decode cL_law 1256 = .ok (.aload_n 2, 1) := by decide +kernel
theorem dL_law_1257 : decode cL_law 1257 = .ok (.aload_n 0, 1) := by decide +kernel
theorem dL_law_1258 : decode cL_law 1258 = .ok (.iload 4, 2) := by decide +kernel
theorem dL_law_1260 : decode cL_law 1260 = .ok (.iconst 1, 1) := by decide +kernel
theorem dL_law_1261 : decode cL_law 1261 = .ok (.iadd, 1) := by decide +kernel
theorem dL_law_1262 : decode cL_law 1262 = .ok (.iaload, 1) := by decide +kernel
theorem dL_law_1263 : decode cL_law 1263 = .ok (.invokevirtual 155, 3) := by decide +kernel
theorem dL_law_1266 : decode cL_law 1266 = .ok (.istore 6, 2) := by decide +kernel
theorem dL_law_1268 : decode cL_law 1268 = .ok (.aload_n 2, 1) := by decide +kernel
theorem dL_law_1269 : decode cL_law 1269 = .ok (.invokevirtual 108, 3) := by decide +kernel
theorem dL_law_1272 : decode cL_law 1272 = .ok (.iload 5, 2) := by decide +kernel
theorem dL_law_1274 : decode cL_law 1274 = .ok (.if_icmp .eq 5, 3) := by decide +kernel
theorem dL_law_1277 : decode cL_law 1277 = .ok (.iconst 0, 1) := by decide +kernel
theorem dL_law_1278 : decode cL_law 1278 = .ok (.ireturn, 1) := by decide +kernel
theorem dL_law_1279 : decode cL_law 1279 = .ok (.iload 5, 2) := by decide +kernel
theorem dL_law_1281 : decode cL_law 1281 = .ok (.ifCond .ne 15, 3) := by decide +kernel
theorem dL_law_1284 : decode cL_law 1284 = .ok (.aload_n 3, 1) := by decide +kernel
theorem dL_law_1285 : decode cL_law 1285 = .ok (.iconst 0, 1) := by decide +kernel
theorem dL_law_1286 : decode cL_law 1286 = .ok (.laload, 1) := by decide +kernel
theorem dL_law_1287 : decode cL_law 1287 = .ok (.iload 6, 2) := by decide +kernel
theorem dL_law_1289 : decode cL_law 1289 = .ok (.i2l, 1) := by decide +kernel
theorem dL_law_1290 : decode cL_law 1290 = .ok (.lcmp, 1) := by decide +kernel
theorem dL_law_1291 : decode cL_law 1291 = .ok (.ifCond .eq 5, 3) := by decide +kernel
theorem dL_law_1294 : decode cL_law 1294 = .ok (.iconst 0, 1) := by decide +kernel
theorem dL_law_1295 : decode cL_law 1295 = .ok (.ireturn, 1) := by decide +kernel
theorem dL_law_1296 : decode cL_law 1296 = .ok (.goto 602, 3) := by decide +kernel
theorem dL_law_1299 : decode cL_law 1299 = .ok (.aload_n 1, 1) := by decide +kernel
theorem dL_law_1300 : decode cL_law 1300 = .ok (.aload_n 0, 1) := by decide +kernel
theorem dL_law_1301 : decode cL_law 1301 = .ok (.iload 4, 2) := by decide +kernel
theorem dL_law_1303 : decode cL_law 1303 = .ok (.iconst 1, 1) := by decide +kernel
theorem dL_law_1304 : decode cL_law 1304 = .ok (.iadd, 1) := by decide +kernel
theorem dL_law_1305 : decode cL_law 1305 = .ok (.iaload, 1) := by decide +kernel
theorem dL_law_1306 : decode cL_law 1306 = .ok (.aload_n 0, 1) := by decide +kernel
theorem dL_law_1307 : decode cL_law 1307 = .ok (.iload 4, 2) := by decide +kernel
theorem dL_law_1309 : decode cL_law 1309 = .ok (.iconst 2, 1) := by decide +kernel
theorem dL_law_1310 : decode cL_law 1310 = .ok (.iadd, 1) := by decide +kernel
theorem dL_law_1311 : decode cL_law 1311 = .ok (.iaload, 1) := by decide +kernel
theorem dL_law_1312 : decode cL_law 1312 = .ok (.aload_n 3, 1) := by decide +kernel
theorem dL_law_1313 : decode cL_law 1313 = .ok (.invokestatic 156, 3) := by decide +kernel
theorem dL_law_1316 : decode cL_law 1316 = .ok (.istore 5, 2) := by decide +kernel
theorem dL_law_1318 : decode cL_law 1318 = .ok (.aload_n 2, 1) := by decide +kernel
theorem dL_law_1319 : decode cL_law 1319 = .ok (.aload_n 0, 1) := by decide +kernel
theorem dL_law_1320 : decode cL_law 1320 = .ok (.iload 4, 2) := by decide +kernel
theorem dL_law_1322 : decode cL_law 1322 = .ok (.iconst 1, 1) := by decide +kernel
theorem dL_law_1323 : decode cL_law 1323 = .ok (.iadd, 1) := by decide +kernel
theorem dL_law_1324 : decode cL_law 1324 = .ok (.iaload, 1) := by decide +kernel
theorem dL_law_1325 : decode cL_law 1325 = .ok (.aload_n 0, 1) := by decide +kernel
theorem dL_law_1326 : decode cL_law 1326 = .ok (.iload 4, 2) := by decide +kernel
theorem dL_law_1328 : decode cL_law 1328 = .ok (.iconst 2, 1) := by decide +kernel
theorem dL_law_1329 : decode cL_law 1329 = .ok (.iadd, 1) := by decide +kernel
theorem dL_law_1330 : decode cL_law 1330 = .ok (.iaload, 1) := by decide +kernel
theorem dL_law_1331 : decode cL_law 1331 = .ok (.invokevirtual 158, 3) := by decide +kernel
theorem dL_law_1334 : decode cL_law 1334 = .ok (.istore 6, 2) := by decide +kernel
theorem dL_law_1336 : decode cL_law 1336 = .ok (.aload_n 2, 1) := by decide +kernel
theorem dL_law_1337 : decode cL_law 1337 = .ok (.invokevirtual 108, 3) := by decide +kernel
theorem dL_law_1340 : decode cL_law 1340 = .ok (.iload 5, 2) := by decide +kernel
theorem dL_law_1342 : decode cL_law 1342 = .ok (.if_icmp .eq 5, 3) := by decide +kernel
theorem dL_law_1345 : decode cL_law 1345 = .ok (.iconst 0, 1) := by decide +kernel
theorem dL_law_1346 : decode cL_law 1346 = .ok (.ireturn, 1) := by decide +kernel
theorem dL_law_1347 : decode cL_law 1347 = .ok (.iload 5, 2) := by decide +kernel
theorem dL_law_1349 : decode cL_law 1349 = .ok (.ifCond .ne 15, 3) := by decide +kernel
theorem dL_law_1352 : decode cL_law 1352 = .ok (.aload_n 3, 1) := by decide +kernel
theorem dL_law_1353 : decode cL_law 1353 = .ok (.iconst 0, 1) := by decide +kernel
theorem dL_law_1354 : decode cL_law 1354 = .ok (.laload, 1) := by decide +kernel
theorem dL_law_1355 : decode cL_law 1355 = .ok (.iload 6, 2) := by decide +kernel
theorem dL_law_1357 : decode cL_law 1357 = .ok (.i2l, 1) := by decide +kernel
theorem dL_law_1358 : decode cL_law 1358 = .ok (.lcmp, 1) := by decide +kernel
theorem dL_law_1359 : decode cL_law 1359 = .ok (.ifCond .eq 5, 3) := by decide +kernel
theorem dL_law_1362 : decode cL_law 1362 = .ok (.iconst 0, 1) := by decide +kernel
theorem dL_law_1363 : decode cL_law 1363 = .ok (.ireturn, 1) := by decide +kernel
theorem dL_law_1364 : decode cL_law 1364 = .ok (.goto 534, 3) := by decide +kernel
theorem dL_law_1367 : decode cL_law 1367 = .ok (.aload_n 1, 1) := by decide +kernel
theorem dL_law_1368 : decode cL_law 1368 = .ok (.aload_n 0, 1) := by decide +kernel
theorem dL_law_1369 : decode cL_law 1369 = .ok (.iload 4, 2) := by decide +kernel
theorem dL_law_1371 : decode cL_law 1371 = .ok (.iconst 1, 1) := by decide +kernel
theorem dL_law_1372 : decode cL_law 1372 = .ok (.iadd, 1) := by decide +kernel
theorem dL_law_1373 : decode cL_law 1373 = .ok (.iaload, 1) := by decide +kernel
theorem dL_law_1374 : decode cL_law 1374 = .ok (.aload_n 3, 1) := by decide +kernel
theorem dL_law_1375 : decode cL_law 1375 = .ok (.invokestatic 159, 3) := by decide +kernel
theorem dL_law_1378 : decode cL_law 1378 = .ok (.istore 5, 2) := by decide +kernel
theorem dL_law_1380 : decode cL_law 1380 = .ok (.aload_n 2, 1) := by decide +kernel
theorem dL_law_1381 : decode cL_law 1381 = .ok (.aload_n 0, 1) := by decide +kernel
theorem dL_law_1382 : decode cL_law 1382 = .ok (.iload 4, 2) := by decide +kernel
theorem dL_law_1384 : decode cL_law 1384 = .ok (.iconst 1, 1) := by decide +kernel
theorem dL_law_1385 : decode cL_law 1385 = .ok (.iadd, 1) := by decide +kernel
theorem dL_law_1386 : decode cL_law 1386 = .ok (.iaload, 1) := by decide +kernel
theorem dL_law_1387 : decode cL_law 1387 = .ok (.invokevirtual 161, 3) := by decide +kernel
theorem dL_law_1390 : decode cL_law 1390 = .ok (.istore 6, 2) := by decide +kernel
theorem dL_law_1392 : decode cL_law 1392 = .ok (.aload_n 2, 1) := by decide +kernel
theorem dL_law_1393 : decode cL_law 1393 = .ok (.invokevirtual 108, 3) := by decide +kernel
theorem dL_law_1396 : decode cL_law 1396 = .ok (.iload 5, 2) := by decide +kernel
theorem dL_law_1398 : decode cL_law 1398 = .ok (.if_icmp .eq 5, 3) := by decide +kernel
theorem dL_law_1401 : decode cL_law 1401 = .ok (.iconst 0, 1) := by decide +kernel
theorem dL_law_1402 : decode cL_law 1402 = .ok (.ireturn, 1) := by decide +kernel
theorem dL_law_1403 : decode cL_law 1403 = .ok (.iload 5, 2) := by decide +kernel
theorem dL_law_1405 : decode cL_law 1405 = .ok (.ifCond .ne 15, 3) := by decide +kernel
theorem dL_law_1408 : decode cL_law 1408 = .ok (.aload_n 3, 1) := by decide +kernel
theorem dL_law_1409 : decode cL_law 1409 = .ok (.iconst 0, 1) := by decide +kernel
theorem dL_law_1410 : decode cL_law 1410 = .ok (.laload, 1) := by decide +kernel
theorem dL_law_1411 : decode cL_law 1411 = .ok (.iload 6, 2) := by decide +kernel
theorem dL_law_1413 : decode cL_law 1413 = .ok (.i2l, 1) := by decide +kernel
theorem dL_law_1414 : decode cL_law 1414 = .ok (.lcmp, 1) := by decide +kernel
theorem dL_law_1415 : decode cL_law 1415 = .ok (.ifCond .eq 5, 3) := by decide +kernel
theorem dL_law_1418 : decode cL_law 1418 = .ok (.iconst 0, 1) := by decide +kernel
theorem dL_law_1419 : decode cL_law 1419 = .ok (.ireturn, 1) := by decide +kernel
theorem dL_law_1420 : decode cL_law 1420 = .ok (.goto 478, 3) := by decide +kernel
theorem dL_law_1423 : decode cL_law 1423 = .ok (.aload_n 1, 1) := by decide +kernel
theorem dL_law_1424 : decode cL_law 1424 = .ok (.aload_n 0, 1) := by decide +kernel
theorem dL_law_1425 : decode cL_law 1425 = .ok (.iload 4, 2) := by decide +kernel
theorem dL_law_1427 : decode cL_law 1427 = .ok (.iconst 1, 1) := by decide +kernel
theorem dL_law_1428 : decode cL_law 1428 = .ok (.iadd, 1) := by decide +kernel
theorem dL_law_1429 : decode cL_law 1429 = .ok (.iaload, 1) := by decide +kernel
theorem dL_law_1430 : decode cL_law 1430 = .ok (.aload_n 3, 1) := by decide +kernel
theorem dL_law_1431 : decode cL_law 1431 = .ok (.invokestatic 162, 3) := by decide +kernel
theorem dL_law_1434 : decode cL_law 1434 = .ok (.istore 5, 2) := by decide +kernel
theorem dL_law_1436 : decode cL_law 1436 = .ok (.aload_n 2, 1) := by decide +kernel
theorem dL_law_1437 : decode cL_law 1437 = .ok (.aload_n 0, 1) := by decide +kernel
theorem dL_law_1438 : decode cL_law 1438 = .ok (.iload 4, 2) := by decide +kernel
theorem dL_law_1440 : decode cL_law 1440 = .ok (.iconst 1, 1) := by decide +kernel
theorem dL_law_1441 : decode cL_law 1441 = .ok (.iadd, 1) := by decide +kernel
theorem dL_law_1442 : decode cL_law 1442 = .ok (.iaload, 1) := by decide +kernel
theorem dL_law_1443 : decode cL_law 1443 = .ok (.invokevirtual 164, 3) := by decide +kernel
theorem dL_law_1446 : decode cL_law 1446 = .ok (.istore 6, 2) := by decide +kernel
theorem dL_law_1448 : decode cL_law 1448 = .ok (.aload_n 2, 1) := by decide +kernel
theorem dL_law_1449 : decode cL_law 1449 = .ok (.invokevirtual 108, 3) := by decide +kernel
theorem dL_law_1452 : decode cL_law 1452 = .ok (.iload 5, 2) := by decide +kernel
theorem dL_law_1454 : decode cL_law 1454 = .ok (.if_icmp .eq 5, 3) := by decide +kernel
theorem dL_law_1457 : decode cL_law 1457 = .ok (.iconst 0, 1) := by decide +kernel
theorem dL_law_1458 : decode cL_law 1458 = .ok (.ireturn, 1) := by decide +kernel
theorem dL_law_1459 : decode cL_law 1459 = .ok (.iload 5, 2) := by decide +kernel
theorem dL_law_1461 : decode cL_law 1461 = .ok (.ifCond .ne 15, 3) := by decide +kernel
theorem dL_law_1464 : decode cL_law 1464 = .ok (.aload_n 3, 1) := by decide +kernel
theorem dL_law_1465 : decode cL_law 1465 = .ok (.iconst 0, 1) := by decide +kernel
theorem dL_law_1466 : decode cL_law 1466 = .ok (.laload, 1) := by decide +kernel
theorem dL_law_1467 : decode cL_law 1467 = .ok (.iload 6, 2) := by decide +kernel
theorem dL_law_1469 : decode cL_law 1469 = .ok (.i2l, 1) := by decide +kernel
theorem dL_law_1470 : decode cL_law 1470 = .ok (.lcmp, 1) := by decide +kernel
theorem dL_law_1471 : decode cL_law 1471 = .ok (.ifCond .eq 5, 3) := by decide +kernel
theorem dL_law_1474 : decode cL_law 1474 = .ok (.iconst 0, 1) := by decide +kernel
theorem dL_law_1475 : decode cL_law 1475 = .ok (.ireturn, 1) := by decide +kernel
theorem dL_law_1476 : decode cL_law 1476 = .ok (.goto 422, 3) := by decide +kernel
theorem dL_law_1479 : decode cL_law 1479 = .ok (.aload_n 1, 1) := by decide +kernel
theorem dL_law_1480 : decode cL_law 1480 = .ok (.aload_n 0, 1) := by decide +kernel
theorem dL_law_1481 : decode cL_law 1481 = .ok (.iload 4, 2) := by decide +kernel
theorem dL_law_1483 : decode cL_law 1483 = .ok (.iconst 1, 1) := by decide +kernel
theorem dL_law_1484 : decode cL_law 1484 = .ok (.iadd, 1) := by decide +kernel
theorem dL_law_1485 : decode cL_law 1485 = .ok (.iaload, 1) := by decide +kernel
theorem dL_law_1486 : decode cL_law 1486 = .ok (.aload_n 3, 1) := by decide +kernel
theorem dL_law_1487 : decode cL_law 1487 = .ok (.invokestatic 165, 3) := by decide +kernel
theorem dL_law_1490 : decode cL_law 1490 = .ok (.istore 5, 2) := by decide +kernel
theorem dL_law_1492 : decode cL_law 1492 = .ok (.aload_n 2, 1) := by decide +kernel
theorem dL_law_1493 : decode cL_law 1493 = .ok (.aload_n 0, 1) := by decide +kernel
theorem dL_law_1494 : decode cL_law 1494 = .ok (.iload 4, 2) := by decide +kernel
theorem dL_law_1496 : decode cL_law 1496 = .ok (.iconst 1, 1) := by decide +kernel
theorem dL_law_1497 : decode cL_law 1497 = .ok (.iadd, 1) := by decide +kernel
theorem dL_law_1498 : decode cL_law 1498 = .ok (.iaload, 1) := by decide +kernel
theorem dL_law_1499 : decode cL_law 1499 = .ok (.invokevirtual 167, 3) := by decide +kernel
theorem dL_law_1502 : decode cL_law 1502 = .ok (.istore 6, 2) := by decide +kernel
theorem dL_law_1504 : decode cL_law 1504 = .ok (.aload_n 2, 1) := by decide +kernel
theorem dL_law_1505 : decode cL_law 1505 = .ok (.invokevirtual 108, 3) := by decide +kernel
theorem dL_law_1508 : decode cL_law 1508 = .ok (.iload 5, 2) := by decide +kernel
theorem dL_law_1510 : decode cL_law 1510 = .ok (.if_icmp .eq 5, 3) := by decide +kernel
theorem dL_law_1513 : decode cL_law 1513 = .ok (.iconst 0, 1) := by decide +kernel
theorem dL_law_1514 : decode cL_law 1514 = .ok (.ireturn, 1) := by decide +kernel
theorem dL_law_1515 : decode cL_law 1515 = .ok (.iload 5, 2) := by decide +kernel
theorem dL_law_1517 : decode cL_law 1517 = .ok (.ifCond .ne 15, 3) := by decide +kernel
theorem dL_law_1520 : decode cL_law 1520 = .ok (.aload_n 3, 1) := by decide +kernel
theorem dL_law_1521 : decode cL_law 1521 = .ok (.iconst 0, 1) := by decide +kernel
theorem dL_law_1522 : decode cL_law 1522 = .ok (.laload, 1) := by decide +kernel
theorem dL_law_1523 : decode cL_law 1523 = .ok (.iload 6, 2) := by decide +kernel
theorem dL_law_1525 : decode cL_law 1525 = .ok (.i2l, 1) := by decide +kernel
theorem dL_law_1526 : decode cL_law 1526 = .ok (.lcmp, 1) := by decide +kernel
theorem dL_law_1527 : decode cL_law 1527 = .ok (.ifCond .eq 5, 3) := by decide +kernel
theorem dL_law_1530 : decode cL_law 1530 = .ok (.iconst 0, 1) := by decide +kernel
theorem dL_law_1531 : decode cL_law 1531 = .ok (.ireturn, 1) := by decide +kernel
theorem dL_law_1532 : decode cL_law 1532 = .ok (.goto 366, 3) := by decide +kernel
theorem dL_law_1535 : decode cL_law 1535 = .ok (.aload_n 1, 1) := by decide +kernel
theorem dL_law_1536 : decode cL_law 1536 = .ok (.invokevirtual 168, 3) := by decide +kernel
theorem dL_law_1539 : decode cL_law 1539 = .ok (.aload_n 2, 1) := by decide +kernel
theorem dL_law_1540 : decode cL_law 1540 = .ok (.invokevirtual 171, 3) := by decide +kernel
theorem dL_law_1543 : decode cL_law 1543 = .ok (.if_icmp .eq 355, 3) := by decide +kernel
theorem dL_law_1546 : decode cL_law 1546 = .ok (.iconst 0, 1) := by decide +kernel
theorem dL_law_1547 : decode cL_law 1547 = .ok (.ireturn, 1) := by decide +kernel
theorem dL_law_1548 : decode cL_law 1548 = .ok (.aload_n 1, 1) := by decide +kernel
theorem dL_law_1549 : decode cL_law 1549 = .ok (.invokevirtual 172, 3) := by decide +kernel
theorem dL_law_1552 : decode cL_law 1552 = .ok (.aload_n 2, 1) := by decide +kernel
theorem dL_law_1553 : decode cL_law 1553 = .ok (.invokevirtual 175, 3) := by decide +kernel
theorem dL_law_1556 : decode cL_law 1556 = .ok (.if_icmp .eq 342, 3) := by decide +kernel
theorem dL_law_1559 : decode cL_law 1559 = .ok (.iconst 0, 1) := by decide +kernel
theorem dL_law_1560 : decode cL_law 1560 = .ok (.ireturn, 1) := by decide +kernel
theorem dL_law_1561 : decode cL_law 1561 = .ok (.aload_n 1, 1) := by decide +kernel
theorem dL_law_1562 : decode cL_law 1562 = .ok (.aload_n 0, 1) := by decide +kernel
theorem dL_law_1563 : decode cL_law 1563 = .ok (.iload 4, 2) := by decide +kernel
theorem dL_law_1565 : decode cL_law 1565 = .ok (.iconst 1, 1) := by decide +kernel
theorem dL_law_1566 : decode cL_law 1566 = .ok (.iadd, 1) := by decide +kernel
theorem dL_law_1567 : decode cL_law 1567 = .ok (.iaload, 1) := by decide +kernel
theorem dL_law_1568 : decode cL_law 1568 = .ok (.aload_n 3, 1) := by decide +kernel
theorem dL_law_1569 : decode cL_law 1569 = .ok (.invokestatic 176, 3) := by decide +kernel
theorem dL_law_1572 : decode cL_law 1572 = .ok (.istore 5, 2) := by decide +kernel
theorem dL_law_1574 : decode cL_law 1574 = .ok (.aload_n 2, 1) := by decide +kernel
theorem dL_law_1575 : decode cL_law 1575 = .ok (.aload_n 0, 1) := by decide +kernel
theorem dL_law_1576 : decode cL_law 1576 = .ok (.iload 4, 2) := by decide +kernel
theorem dL_law_1578 : decode cL_law 1578 = .ok (.iconst 1, 1) := by decide +kernel
theorem dL_law_1579 : decode cL_law 1579 = .ok (.iadd, 1) := by decide +kernel
theorem dL_law_1580 : decode cL_law 1580 = .ok (.iaload, 1) := by decide +kernel
theorem dL_law_1581 : decode cL_law 1581 = .ok (.invokevirtual 178, 3) := by decide +kernel
theorem dL_law_1584 : decode cL_law 1584 = .ok (.istore 6, 2) := by decide +kernel
theorem dL_law_1586 : decode cL_law 1586 = .ok (.aload_n 2, 1) := by decide +kernel
theorem dL_law_1587 : decode cL_law 1587 = .ok (.invokevirtual 108, 3) := by decide +kernel
theorem dL_law_1590 : decode cL_law 1590 = .ok (.iload 5, 2) := by decide +kernel
theorem dL_law_1592 : decode cL_law 1592 = .ok (.if_icmp .eq 5, 3) := by decide +kernel
theorem dL_law_1595 : decode cL_law 1595 = .ok (.iconst 0, 1) := by decide +kernel
theorem dL_law_1596 : decode cL_law 1596 = .ok (.ireturn, 1) := by decide +kernel
theorem dL_law_1597 : decode cL_law 1597 = .ok (.iload 5, 2) := by decide +kernel
theorem dL_law_1599 : decode cL_law 1599 = .ok (.ifCond .ne 15, 3) := by decide +kernel
theorem dL_law_1602 : decode cL_law 1602 = .ok (.aload_n 3, 1) := by decide +kernel
theorem dL_law_1603 : decode cL_law 1603 = .ok (.iconst 0, 1) := by decide +kernel
theorem dL_law_1604 : decode cL_law 1604 = .ok (.laload, 1) := by decide +kernel
theorem dL_law_1605 : decode cL_law 1605 = .ok (.iload 6, 2) := by decide +kernel
theorem dL_law_1607 : decode cL_law 1607 = .ok (.i2l, 1) := by decide +kernel
theorem dL_law_1608 : decode cL_law 1608 = .ok (.lcmp, 1) := by decide +kernel
theorem dL_law_1609 : decode cL_law 1609 = .ok (.ifCond .eq 5, 3) := by decide +kernel
theorem dL_law_1612 : decode cL_law 1612 = .ok (.iconst 0, 1) := by decide +kernel
theorem dL_law_1613 : decode cL_law 1613 = .ok (.ireturn, 1) := by decide +kernel
theorem dL_law_1614 : decode cL_law 1614 = .ok (.goto 284, 3) := by decide +kernel
theorem dL_law_1617 : decode cL_law 1617 = .ok (.aload_n 1, 1) := by decide +kernel
theorem dL_law_1618 : decode cL_law 1618 = .ok (.aload_n 3, 1) := by decide +kernel
theorem dL_law_1619 : decode cL_law 1619 = .ok (.invokestatic 179, 3) := by decide +kernel
theorem dL_law_1622 : decode cL_law 1622 = .ok (.istore 5, 2) := by decide +kernel
theorem dL_law_1624 : decode cL_law 1624 = .ok (.aload_n 2, 1) := by decide +kernel
theorem dL_law_1625 : decode cL_law 1625 = .ok (.invokevirtual 182, 3) := by decide +kernel
theorem dL_law_1628 : decode cL_law 1628 = .ok (.istore 6, 2) := by decide +kernel
theorem dL_law_1630 : decode cL_law 1630 = .ok (.aload_n 2, 1) := by decide +kernel
theorem dL_law_1631 : decode cL_law 1631 = .ok (.invokevirtual 108, 3) := by decide +kernel
theorem dL_law_1634 : decode cL_law 1634 = .ok (.iload 5, 2) := by decide +kernel
theorem dL_law_1636 : decode cL_law 1636 = .ok (.if_icmp .eq 5, 3) := by decide +kernel
theorem dL_law_1639 : decode cL_law 1639 = .ok (.iconst 0, 1) := by decide +kernel
theorem dL_law_1640 : decode cL_law 1640 = .ok (.ireturn, 1) := by decide +kernel
theorem dL_law_1641 : decode cL_law 1641 = .ok (.iload 5, 2) := by decide +kernel
theorem dL_law_1643 : decode cL_law 1643 = .ok (.ifCond .ne 15, 3) := by decide +kernel
theorem dL_law_1646 : decode cL_law 1646 = .ok (.aload_n 3, 1) := by decide +kernel
theorem dL_law_1647 : decode cL_law 1647 = .ok (.iconst 0, 1) := by decide +kernel
theorem dL_law_1648 : decode cL_law 1648 = .ok (.laload, 1) := by decide +kernel
theorem dL_law_1649 : decode cL_law 1649 = .ok (.iload 6, 2) := by decide +kernel
theorem dL_law_1651 : decode cL_law 1651 = .ok (.i2l, 1) := by decide +kernel
theorem dL_law_1652 : decode cL_law 1652 = .ok (.lcmp, 1) := by decide +kernel
theorem dL_law_1653 : decode cL_law 1653 = .ok (.ifCond .eq 5, 3) := by decide +kernel
theorem dL_law_1656 : decode cL_law 1656 = .ok (.iconst 0, 1) := by decide +kernel
theorem dL_law_1657 : decode cL_law 1657 = .ok (.ireturn, 1) := by decide +kernel
theorem dL_law_1658 : decode cL_law 1658 = .ok (.goto 240, 3) := by decide +kernel
theorem dL_law_1661 : decode cL_law 1661 = .ok (.aload_n 1, 1) := by decide +kernel
theorem dL_law_1662 : decode cL_law 1662 = .ok (.aload_n 0, 1) := by decide +kernel
theorem dL_law_1663 : decode cL_law 1663 = .ok (.iload 4, 2) := by decide +kernel
theorem dL_law_1665 : decode cL_law 1665 = .ok (.iconst 1, 1) := by decide +kernel
theorem dL_law_1666 : decode cL_law 1666 = .ok (.iadd, 1) := by decide +kernel
theorem dL_law_1667 : decode cL_law 1667 = .ok (.iaload, 1) := by decide +kernel
theorem dL_law_1668 : decode cL_law 1668 = .ok (.aload_n 3, 1) := by decide +kernel
theorem dL_law_1669 : decode cL_law 1669 = .ok (.invokestatic 183, 3) := by decide +kernel
theorem dL_law_1672 : decode cL_law 1672 = .ok (.istore 5, 2) := by decide +kernel
theorem dL_law_1674 : decode cL_law 1674 = .ok (.aload_n 2, 1) := by decide +kernel
theorem dL_law_1675 : decode cL_law 1675 = .ok (.aload_n 0, 1) := by decide +kernel
theorem dL_law_1676 : decode cL_law 1676 = .ok (.iload 4, 2) := by decide +kernel
theorem dL_law_1678 : decode cL_law 1678 = .ok (.iconst 1, 1) := by decide +kernel
theorem dL_law_1679 : decode cL_law 1679 = .ok (.iadd, 1) := by decide +kernel
theorem dL_law_1680 : decode cL_law 1680 = .ok (.iaload, 1) := by decide +kernel
theorem dL_law_1681 : decode cL_law 1681 = .ok (.invokevirtual 185, 3) := by decide +kernel
theorem dL_law_1684 : decode cL_law 1684 = .ok (.istore 6, 2) := by decide +kernel
theorem dL_law_1686 : decode cL_law 1686 = .ok (.aload_n 2, 1) := by decide +kernel
theorem dL_law_1687 : decode cL_law 1687 = .ok (.invokevirtual 108, 3) := by decide +kernel
theorem dL_law_1690 : decode cL_law 1690 = .ok (.iload 5, 2) := by decide +kernel
theorem dL_law_1692 : decode cL_law 1692 = .ok (.if_icmp .eq 5, 3) := by decide +kernel
theorem dL_law_1695 : decode cL_law 1695 = .ok (.iconst 0, 1) := by decide +kernel
theorem dL_law_1696 : decode cL_law 1696 = .ok (.ireturn, 1) := by decide +kernel
theorem dL_law_1697 : decode cL_law 1697 = .ok (.iload 5, 2) := by decide +kernel
theorem dL_law_1699 : decode cL_law 1699 = .ok (.ifCond .ne 15, 3) := by decide +kernel
theorem dL_law_1702 : decode cL_law 1702 = .ok (.aload_n 3, 1) := by decide +kernel
theorem dL_law_1703 : decode cL_law 1703 = .ok (.iconst 0, 1) := by decide +kernel
theorem dL_law_1704 : decode cL_law 1704 = .ok (.laload, 1) := by decide +kernel
theorem dL_law_1705 : decode cL_law 1705 = .ok (.iload 6, 2) := by decide +kernel
theorem dL_law_1707 : decode cL_law 1707 = .ok (.i2l, 1) := by decide +kernel
theorem dL_law_1708 : decode cL_law 1708 = .ok (.lcmp, 1) := by decide +kernel
theorem dL_law_1709 : decode cL_law 1709 = .ok (.ifCond .eq 5, 3) := by decide +kernel
theorem dL_law_1712 : decode cL_law 1712 = .ok (.iconst 0, 1) := by decide +kernel
theorem dL_law_1713 : decode cL_law 1713 = .ok (.ireturn, 1) := by decide +kernel
theorem dL_law_1714 : decode cL_law 1714 = .ok (.goto 184, 3) := by decide +kernel
theorem dL_law_1717 : decode cL_law 1717 = .ok (.aload_n 1, 1) := by decide +kernel
theorem dL_law_1718 : decode cL_law 1718 = .ok (.aload_n 0, 1) := by decide +kernel
theorem dL_law_1719 : decode cL_law 1719 = .ok (.iload 4, 2) := by decide +kernel
theorem dL_law_1721 : decode cL_law 1721 = .ok (.iconst 1, 1) := by decide +kernel
theorem dL_law_1722 : decode cL_law 1722 = .ok (.iadd, 1) := by decide +kernel
theorem dL_law_1723 : decode cL_law 1723 = .ok (.iaload, 1) := by decide +kernel
theorem dL_law_1724 : decode cL_law 1724 = .ok (.aload_n 3, 1) := by decide +kernel
theorem dL_law_1725 : decode cL_law 1725 = .ok (.invokestatic 186, 3) := by decide +kernel
theorem dL_law_1728 : decode cL_law 1728 = .ok (.istore 5, 2) := by decide +kernel
theorem dL_law_1730 : decode cL_law 1730 = .ok (.aload_n 2, 1) := by decide +kernel
theorem dL_law_1731 : decode cL_law 1731 = .ok (.aload_n 0, 1) := by decide +kernel
theorem dL_law_1732 : decode cL_law 1732 = .ok (.iload 4, 2) := by decide +kernel
theorem dL_law_1734 : decode cL_law 1734 = .ok (.iconst 1, 1) := by decide +kernel
theorem dL_law_1735 : decode cL_law 1735 = .ok (.iadd, 1) := by decide +kernel
theorem dL_law_1736 : decode cL_law 1736 = .ok (.iaload, 1) := by decide +kernel
theorem dL_law_1737 : decode cL_law 1737 = .ok (.invokevirtual 188, 3) := by decide +kernel
theorem dL_law_1740 : decode cL_law 1740 = .ok (.istore 6, 2) := by decide +kernel
theorem dL_law_1742 : decode cL_law 1742 = .ok (.aload_n 2, 1) := by decide +kernel
theorem dL_law_1743 : decode cL_law 1743 = .ok (.invokevirtual 108, 3) := by decide +kernel
theorem dL_law_1746 : decode cL_law 1746 = .ok (.iload 5, 2) := by decide +kernel
theorem dL_law_1748 : decode cL_law 1748 = .ok (.if_icmp .eq 5, 3) := by decide +kernel
theorem dL_law_1751 : decode cL_law 1751 = .ok (.iconst 0, 1) := by decide +kernel
theorem dL_law_1752 : decode cL_law 1752 = .ok (.ireturn, 1) := by decide +kernel
theorem dL_law_1753 : decode cL_law 1753 = .ok (.iload 5, 2) := by decide +kernel
theorem dL_law_1755 : decode cL_law 1755 = .ok (.ifCond .ne 15, 3) := by decide +kernel
theorem dL_law_1758 : decode cL_law 1758 = .ok (.aload_n 3, 1) := by decide +kernel
theorem dL_law_1759 : decode cL_law 1759 = .ok (.iconst 0, 1) := by decide +kernel
theorem dL_law_1760 : decode cL_law 1760 = .ok (.laload, 1) := by decide +kernel
theorem dL_law_1761 : decode cL_law 1761 = .ok (.iload 6, 2) := by decide +kernel
theorem dL_law_1763 : decode cL_law 1763 = .ok (.i2l, 1) := by decide +kernel
theorem dL_law_1764 : decode cL_law 1764 = .ok (.lcmp, 1) := by decide +kernel
theorem dL_law_1765 : decode cL_law 1765 = .ok (.ifCond .eq 5, 3) := by decide +kernel
theorem dL_law_1768 : decode cL_law 1768 = .ok (.iconst 0, 1) := by decide +kernel
theorem dL_law_1769 : decode cL_law 1769 = .ok (.ireturn, 1) := by decide +kernel
theorem dL_law_1770 : decode cL_law 1770 = .ok (.goto 128, 3) := by decide +kernel
theorem dL_law_1773 : decode cL_law 1773 = .ok (.aload_n 1, 1) := by decide +kernel
theorem dL_law_1774 : decode cL_law 1774 = .ok (.aload_n 0, 1) := by decide +kernel
theorem dL_law_1775 : decode cL_law 1775 = .ok (.iload 4, 2) := by decide +kernel
theorem dL_law_1777 : decode cL_law 1777 = .ok (.iconst 1, 1) := by decide +kernel
theorem dL_law_1778 : decode cL_law 1778 = .ok (.iadd, 1) := by decide +kernel
theorem dL_law_1779 : decode cL_law 1779 = .ok (.iaload, 1) := by decide +kernel
theorem dL_law_1780 : decode cL_law 1780 = .ok (.aload_n 3, 1) := by decide +kernel
theorem dL_law_1781 : decode cL_law 1781 = .ok (.invokestatic 189, 3) := by decide +kernel
theorem dL_law_1784 : decode cL_law 1784 = .ok (.istore 5, 2) := by decide +kernel
theorem dL_law_1786 : decode cL_law 1786 = .ok (.aload_n 2, 1) := by decide +kernel
theorem dL_law_1787 : decode cL_law 1787 = .ok (.aload_n 0, 1) := by decide +kernel
theorem dL_law_1788 : decode cL_law 1788 = .ok (.iload 4, 2) := by decide +kernel
theorem dL_law_1790 : decode cL_law 1790 = .ok (.iconst 1, 1) := by decide +kernel
theorem dL_law_1791 : decode cL_law 1791 = .ok (.iadd, 1) := by decide +kernel
theorem dL_law_1792 : decode cL_law 1792 = .ok (.iaload, 1) := by decide +kernel
theorem dL_law_1793 : decode cL_law 1793 = .ok (.invokevirtual 191, 3) := by decide +kernel
theorem dL_law_1796 : decode cL_law 1796 = .ok (.istore 6, 2) := by decide +kernel
theorem dL_law_1798 : decode cL_law 1798 = .ok (.aload_n 2, 1) := by decide +kernel
theorem dL_law_1799 : decode cL_law 1799 = .ok (.invokevirtual 108, 3) := by decide +kernel
theorem dL_law_1802 : decode cL_law 1802 = .ok (.iload 5, 2) := by decide +kernel
theorem dL_law_1804 : decode cL_law 1804 = .ok (.if_icmp .eq 5, 3) := by decide +kernel
theorem dL_law_1807 : decode cL_law 1807 = .ok (.iconst 0, 1) := by decide +kernel
theorem dL_law_1808 : decode cL_law 1808 = .ok (.ireturn, 1) := by decide +kernel
theorem dL_law_1809 : decode cL_law 1809 = .ok (.iload 5, 2) := by decide +kernel
theorem dL_law_1811 : decode cL_law 1811 = .ok (.ifCond .ne 15, 3) := by decide +kernel
theorem dL_law_1814 : decode cL_law 1814 = .ok (.aload_n 3, 1) := by decide +kernel
theorem dL_law_1815 : decode cL_law 1815 = .ok (.iconst 0, 1) := by decide +kernel
theorem dL_law_1816 : decode cL_law 1816 = .ok (.laload, 1) := by decide +kernel
theorem dL_law_1817 : decode cL_law 1817 = .ok (.iload 6, 2) := by decide +kernel
theorem dL_law_1819 : decode cL_law 1819 = .ok (.i2l, 1) := by decide +kernel
theorem dL_law_1820 : decode cL_law 1820 = .ok (.lcmp, 1) := by decide +kernel
theorem dL_law_1821 : decode cL_law 1821 = .ok (.ifCond .eq 5, 3) := by decide +kernel
theorem dL_law_1824 : decode cL_law 1824 = .ok (.iconst 0, 1) := by decide +kernel
theorem dL_law_1825 : decode cL_law 1825 = .ok (.ireturn, 1) := by decide +kernel
theorem dL_law_1826 : decode cL_law 1826 = .ok (.goto 72, 3) := by decide +kernel
theorem dL_law_1829 : decode cL_law 1829 = .ok (.aload_n 1, 1) := by decide +kernel
theorem dL_law_1830 : decode cL_law 1830 = .ok (.aload_n 0, 1) := by decide +kernel
theorem dL_law_1831 : decode cL_law 1831 = .ok (.iload 4, 2) := by decide +kernel
theorem dL_law_1833 : decode cL_law 1833 = .ok (.iconst 1, 1) := by decide +kernel
theorem dL_law_1834 : decode cL_law 1834 = .ok (.iadd, 1) := by decide +kernel
theorem dL_law_1835 : decode cL_law 1835 = .ok (.iaload, 1) := by decide +kernel
theorem dL_law_1836 : decode cL_law 1836 = .ok (.aload_n 3, 1) := by decide +kernel
theorem dL_law_1837 : decode cL_law 1837 = .ok (.invokestatic 192, 3) := by decide +kernel
theorem dL_law_1840 : decode cL_law 1840 = .ok (.istore 5, 2) := by decide +kernel
theorem dL_law_1842 : decode cL_law 1842 = .ok (.aload_n 2, 1) := by decide +kernel
theorem dL_law_1843 : decode cL_law 1843 = .ok (.aload_n 0, 1) := by decide +kernel
theorem dL_law_1844 : decode cL_law 1844 = .ok (.iload 4, 2) := by decide +kernel
theorem dL_law_1846 : decode cL_law 1846 = .ok (.iconst 1, 1) := by decide +kernel
theorem dL_law_1847 : decode cL_law 1847 = .ok (.iadd, 1) := by decide +kernel
theorem dL_law_1848 : decode cL_law 1848 = .ok (.iaload, 1) := by decide +kernel
theorem dL_law_1849 : decode cL_law 1849 = .ok (.invokevirtual 194, 3) := by decide +kernel
theorem dL_law_1852 : decode cL_law 1852 = .ok (.istore 6, 2) := by decide +kernel
theorem dL_law_1854 : decode cL_law 1854 = .ok (.aload_n 2, 1) := by decide +kernel
theorem dL_law_1855 : decode cL_law 1855 = .ok (.invokevirtual 108, 3) := by decide +kernel
theorem dL_law_1858 : decode cL_law 1858 = .ok (.iload 5, 2) := by decide +kernel
theorem dL_law_1860 : decode cL_law 1860 = .ok (.if_icmp .eq 5, 3) := by decide +kernel
theorem dL_law_1863 : decode cL_law 1863 = .ok (.iconst 0, 1) := by decide +kernel
theorem dL_law_1864 : decode cL_law 1864 = .ok (.ireturn, 1) := by decide +kernel
theorem dL_law_1865 : decode cL_law 1865 = .ok (.iload 5, 2) := by decide +kernel
theorem dL_law_1867 : decode cL_law 1867 = .ok (.ifCond .ne 15, 3) := by decide +kernel
theorem dL_law_1870 : decode cL_law 1870 = .ok (.aload_n 3, 1) := by decide +kernel
theorem dL_law_1871 : decode cL_law 1871 = .ok (.iconst 0, 1) := by decide +kernel
theorem dL_law_1872 : decode cL_law 1872 = .ok (.laload, 1) := by decide +kernel
theorem dL_law_1873 : decode cL_law 1873 = .ok (.iload 6, 2) := by decide +kernel
theorem dL_law_1875 : decode cL_law 1875 = .ok (.i2l, 1) := by decide +kernel
theorem dL_law_1876 : decode cL_law 1876 = .ok (.lcmp, 1) := by decide +kernel
theorem dL_law_1877 : decode cL_law 1877 = .ok (.ifCond .eq 5, 3) := by decide +kernel
theorem dL_law_1880 : decode cL_law 1880 = .ok (.iconst 0, 1) := by decide +kernel
theorem dL_law_1881 : decode cL_law 1881 = .ok (.ireturn, 1) := by decide +kernel
theorem dL_law_1882 : decode cL_law 1882 = .ok (.goto 16, 3) := by decide +kernel
theorem dL_law_1885 : decode cL_law 1885 = .ok (.aload_n 1, 1) := by decide +kernel
theorem dL_law_1886 : decode cL_law 1886 = .ok (.invokevirtual 195, 3) := by decide +kernel
theorem dL_law_1889 : decode cL_law 1889 = .ok (.aload_n 2, 1) := by decide +kernel
theorem dL_law_1890 : decode cL_law 1890 = .ok (.invokevirtual 198, 3) := by decide +kernel
theorem dL_law_1893 : decode cL_law 1893 = .ok (.if_icmp .eq 5, 3) := by decide +kernel
theorem dL_law_1896 : decode cL_law 1896 = .ok (.iconst 0, 1) := by decide +kernel
theorem dL_law_1897 : decode cL_law 1897 = .ok (.ireturn, 1) := by decide +kernel
theorem dL_law_1898 : decode cL_law 1898 = .ok (.iinc 4 8, 3) := by decide +kernel
theorem dL_law_1901 : decode cL_law 1901 = .ok (.goto (-1878), 3) := by decide +kernel
theorem dL_law_1904 : decode cL_law 1904 = .ok (.iconst 1, 1) := by decide +kernel
theorem dL_law_1905 : decode cL_law 1905 = .ok (.ireturn, 1) := by decide +kernel
end
section
abbrev Mem : Type := Nat → Nat → Int32
/-- what stands at a place of the system's heap: an object (its class's number, its fields: a place, or an int), or an array (0 int, 1 boolean, 2 long; its length) -/
abbrev SE : Type := (Nat × List (Option Nat)) ⊕ (Nat × Nat)
def shp : List SE := [.inl (11, [some 1, some 66, some 67, some 81, some 89]),
  .inl (10, [some 2, some 17, some 32, some 47, some 56, some 58, some 60, some 62, some 64, none, none]),
  .inl (9, [some 3, some 5, some 7, some 9, some 11, some 13, some 15, none, none, none, none]),
  .inl (7, [some 4]),
  .inr (0, 24),
  .inl (7, [some 6]),
  .inr (0, 24),
  .inl (7, [some 8]),
  .inr (0, 24),
  .inl (7, [some 10]),
  .inr (0, 24),
  .inl (7, [some 12]),
  .inr (0, 72),
  .inl (7, [some 14]),
  .inr (0, 24),
  .inl (7, [some 16]),
  .inr (0, 6),
  .inl (6, [some 18, some 20, some 22, some 24, some 26, some 28, some 30, none]),
  .inl (7, [some 19]),
  .inr (0, 30),
  .inl (7, [some 21]),
  .inr (0, 30),
  .inl (7, [some 23]),
  .inr (0, 30),
  .inl (7, [some 25]),
  .inr (0, 30),
  .inl (7, [some 27]),
  .inr (0, 30),
  .inl (7, [some 29]),
  .inr (0, 30),
  .inl (7, [some 31]),
  .inr (0, 30),
  .inl (4, [some 33, some 35, some 37, some 39, some 41, some 43, some 45]),
  .inl (7, [some 34]),
  .inr (0, 120),
  .inl (7, [some 36]),
  .inr (0, 120),
  .inl (7, [some 38]),
  .inr (0, 120),
  .inl (7, [some 40]),
  .inr (0, 120),
  .inl (7, [some 42]),
  .inr (0, 120),
  .inl (7, [some 44]),
  .inr (0, 120),
  .inl (7, [some 46]),
  .inr (0, 24),
  .inl (2, [some 48, some 50, some 52, some 54, none]),
  .inl (7, [some 49]),
  .inr (0, 6),
  .inl (7, [some 51]),
  .inr (0, 6),
  .inl (7, [some 53]),
  .inr (0, 6),
  .inl (7, [some 55]),
  .inr (0, 6),
  .inl (7, [some 57]),
  .inr (0, 6),
  .inl (7, [some 59]),
  .inr (0, 8),
  .inl (7, [some 61]),
  .inr (0, 8),
  .inl (7, [some 63]),
  .inr (0, 6),
  .inl (7, [some 65]),
  .inr (0, 6),
  .inl (5, [some 1, none, none]),
  .inl (8, [some 1, some 66, some 76, some 68, some 70, some 72, some 74, none, none, none]),
  .inl (7, [some 69]),
  .inr (0, 6),
  .inl (7, [some 71]),
  .inr (0, 30),
  .inl (7, [some 73]),
  .inr (0, 6),
  .inl (7, [some 75]),
  .inr (0, 6),
  .inl (1, [some 1, some 77, some 79]),
  .inl (7, [some 78]),
  .inr (0, 6),
  .inl (7, [some 80]),
  .inr (0, 6),
  .inl (0, [some 1, some 66, some 84, some 82]),
  .inl (7, [some 83]),
  .inr (0, 6),
  .inl (1, [some 1, some 85, some 87]),
  .inl (7, [some 86]),
  .inr (0, 6),
  .inl (7, [some 88]),
  .inr (0, 6),
  .inl (3, [some 90, some 92]),
  .inl (7, [some 91]),
  .inr (0, 6),
  .inl (7, [some 93]),
  .inr (0, 6),
  .inl (12, [none, none, none, none, none, none, none, none, some 95, some 96, some 97, some 98, some 99, some 100, some 101, some 102, some 103, some 104, some 105, some 106, some 107, some 108, some 109, some 110, some 111, none, none, some 112, some 113, none, none, none]),
  .inr (0, 216),
  .inr (0, 72),
  .inr (0, 720),
  .inr (0, 150),
  .inr (1, 720),
  .inr (0, 24),
  .inr (0, 16),
  .inr (0, 6),
  .inr (0, 6),
  .inr (0, 6),
  .inr (0, 6),
  .inr (0, 6),
  .inr (0, 6),
  .inr (1, 6),
  .inr (0, 30),
  .inr (0, 6),
  .inr (0, 6),
  .inr (0, 6),
  .inr (0, 6),
  .inr (2, 1)]

theorem s_0 : shp[0]? = some (.inl (11, [some 1, some 66, some 67, some 81, some 89])) := rfl
theorem s_1 : shp[1]? = some (.inl (10, [some 2, some 17, some 32, some 47, some 56, some 58, some 60, some 62, some 64, none, none])) := rfl
theorem s_2 : shp[2]? = some (.inl (9, [some 3, some 5, some 7, some 9, some 11, some 13, some 15, none, none, none, none])) := rfl
theorem s_3 : shp[3]? = some (.inl (7, [some 4])) := rfl
theorem s_4 : shp[4]? = some (.inr (0, 24)) := rfl
theorem s_5 : shp[5]? = some (.inl (7, [some 6])) := rfl
theorem s_6 : shp[6]? = some (.inr (0, 24)) := rfl
theorem s_7 : shp[7]? = some (.inl (7, [some 8])) := rfl
theorem s_8 : shp[8]? = some (.inr (0, 24)) := rfl
theorem s_9 : shp[9]? = some (.inl (7, [some 10])) := rfl
theorem s_10 : shp[10]? = some (.inr (0, 24)) := rfl
theorem s_11 : shp[11]? = some (.inl (7, [some 12])) := rfl
theorem s_12 : shp[12]? = some (.inr (0, 72)) := rfl
theorem s_13 : shp[13]? = some (.inl (7, [some 14])) := rfl
theorem s_14 : shp[14]? = some (.inr (0, 24)) := rfl
theorem s_15 : shp[15]? = some (.inl (7, [some 16])) := rfl
theorem s_16 : shp[16]? = some (.inr (0, 6)) := rfl
theorem s_17 : shp[17]? = some (.inl (6, [some 18, some 20, some 22, some 24, some 26, some 28, some 30, none])) := rfl
theorem s_18 : shp[18]? = some (.inl (7, [some 19])) := rfl
theorem s_19 : shp[19]? = some (.inr (0, 30)) := rfl
theorem s_20 : shp[20]? = some (.inl (7, [some 21])) := rfl
theorem s_21 : shp[21]? = some (.inr (0, 30)) := rfl
theorem s_22 : shp[22]? = some (.inl (7, [some 23])) := rfl
theorem s_23 : shp[23]? = some (.inr (0, 30)) := rfl
theorem s_24 : shp[24]? = some (.inl (7, [some 25])) := rfl
theorem s_25 : shp[25]? = some (.inr (0, 30)) := rfl
theorem s_26 : shp[26]? = some (.inl (7, [some 27])) := rfl
theorem s_27 : shp[27]? = some (.inr (0, 30)) := rfl
theorem s_28 : shp[28]? = some (.inl (7, [some 29])) := rfl
theorem s_29 : shp[29]? = some (.inr (0, 30)) := rfl
theorem s_30 : shp[30]? = some (.inl (7, [some 31])) := rfl
theorem s_31 : shp[31]? = some (.inr (0, 30)) := rfl
theorem s_32 : shp[32]? = some (.inl (4, [some 33, some 35, some 37, some 39, some 41, some 43, some 45])) := rfl
theorem s_33 : shp[33]? = some (.inl (7, [some 34])) := rfl
theorem s_34 : shp[34]? = some (.inr (0, 120)) := rfl
theorem s_35 : shp[35]? = some (.inl (7, [some 36])) := rfl
theorem s_36 : shp[36]? = some (.inr (0, 120)) := rfl
theorem s_37 : shp[37]? = some (.inl (7, [some 38])) := rfl
theorem s_38 : shp[38]? = some (.inr (0, 120)) := rfl
theorem s_39 : shp[39]? = some (.inl (7, [some 40])) := rfl
theorem s_40 : shp[40]? = some (.inr (0, 120)) := rfl
theorem s_41 : shp[41]? = some (.inl (7, [some 42])) := rfl
theorem s_42 : shp[42]? = some (.inr (0, 120)) := rfl
theorem s_43 : shp[43]? = some (.inl (7, [some 44])) := rfl
theorem s_44 : shp[44]? = some (.inr (0, 120)) := rfl
theorem s_45 : shp[45]? = some (.inl (7, [some 46])) := rfl
theorem s_46 : shp[46]? = some (.inr (0, 24)) := rfl
theorem s_47 : shp[47]? = some (.inl (2, [some 48, some 50, some 52, some 54, none])) := rfl
theorem s_48 : shp[48]? = some (.inl (7, [some 49])) := rfl
theorem s_49 : shp[49]? = some (.inr (0, 6)) := rfl
theorem s_50 : shp[50]? = some (.inl (7, [some 51])) := rfl
theorem s_51 : shp[51]? = some (.inr (0, 6)) := rfl
theorem s_52 : shp[52]? = some (.inl (7, [some 53])) := rfl
theorem s_53 : shp[53]? = some (.inr (0, 6)) := rfl
theorem s_54 : shp[54]? = some (.inl (7, [some 55])) := rfl
theorem s_55 : shp[55]? = some (.inr (0, 6)) := rfl
theorem s_56 : shp[56]? = some (.inl (7, [some 57])) := rfl
theorem s_57 : shp[57]? = some (.inr (0, 6)) := rfl
theorem s_58 : shp[58]? = some (.inl (7, [some 59])) := rfl
theorem s_59 : shp[59]? = some (.inr (0, 8)) := rfl
theorem s_60 : shp[60]? = some (.inl (7, [some 61])) := rfl
theorem s_61 : shp[61]? = some (.inr (0, 8)) := rfl
theorem s_62 : shp[62]? = some (.inl (7, [some 63])) := rfl
theorem s_63 : shp[63]? = some (.inr (0, 6)) := rfl
theorem s_64 : shp[64]? = some (.inl (7, [some 65])) := rfl
theorem s_65 : shp[65]? = some (.inr (0, 6)) := rfl
theorem s_66 : shp[66]? = some (.inl (5, [some 1, none, none])) := rfl
theorem s_67 : shp[67]? = some (.inl (8, [some 1, some 66, some 76, some 68, some 70, some 72, some 74, none, none, none])) := rfl
theorem s_68 : shp[68]? = some (.inl (7, [some 69])) := rfl
theorem s_69 : shp[69]? = some (.inr (0, 6)) := rfl
theorem s_70 : shp[70]? = some (.inl (7, [some 71])) := rfl
theorem s_71 : shp[71]? = some (.inr (0, 30)) := rfl
theorem s_72 : shp[72]? = some (.inl (7, [some 73])) := rfl
theorem s_73 : shp[73]? = some (.inr (0, 6)) := rfl
theorem s_74 : shp[74]? = some (.inl (7, [some 75])) := rfl
theorem s_75 : shp[75]? = some (.inr (0, 6)) := rfl
theorem s_76 : shp[76]? = some (.inl (1, [some 1, some 77, some 79])) := rfl
theorem s_77 : shp[77]? = some (.inl (7, [some 78])) := rfl
theorem s_78 : shp[78]? = some (.inr (0, 6)) := rfl
theorem s_79 : shp[79]? = some (.inl (7, [some 80])) := rfl
theorem s_80 : shp[80]? = some (.inr (0, 6)) := rfl
theorem s_81 : shp[81]? = some (.inl (0, [some 1, some 66, some 84, some 82])) := rfl
theorem s_82 : shp[82]? = some (.inl (7, [some 83])) := rfl
theorem s_83 : shp[83]? = some (.inr (0, 6)) := rfl
theorem s_84 : shp[84]? = some (.inl (1, [some 1, some 85, some 87])) := rfl
theorem s_85 : shp[85]? = some (.inl (7, [some 86])) := rfl
theorem s_86 : shp[86]? = some (.inr (0, 6)) := rfl
theorem s_87 : shp[87]? = some (.inl (7, [some 88])) := rfl
theorem s_88 : shp[88]? = some (.inr (0, 6)) := rfl
theorem s_89 : shp[89]? = some (.inl (3, [some 90, some 92])) := rfl
theorem s_90 : shp[90]? = some (.inl (7, [some 91])) := rfl
theorem s_91 : shp[91]? = some (.inr (0, 6)) := rfl
theorem s_92 : shp[92]? = some (.inl (7, [some 93])) := rfl
theorem s_93 : shp[93]? = some (.inr (0, 6)) := rfl
theorem s_94 : shp[94]? = some (.inl (12, [none, none, none, none, none, none, none, none, some 95, some 96, some 97, some 98, some 99, some 100, some 101, some 102, some 103, some 104, some 105, some 106, some 107, some 108, some 109, some 110, some 111, none, none, some 112, some 113, none, none, none])) := rfl
theorem s_95 : shp[95]? = some (.inr (0, 216)) := rfl
theorem s_96 : shp[96]? = some (.inr (0, 72)) := rfl
theorem s_97 : shp[97]? = some (.inr (0, 720)) := rfl
theorem s_98 : shp[98]? = some (.inr (0, 150)) := rfl
theorem s_99 : shp[99]? = some (.inr (1, 720)) := rfl
theorem s_100 : shp[100]? = some (.inr (0, 24)) := rfl
theorem s_101 : shp[101]? = some (.inr (0, 16)) := rfl
theorem s_102 : shp[102]? = some (.inr (0, 6)) := rfl
theorem s_103 : shp[103]? = some (.inr (0, 6)) := rfl
theorem s_104 : shp[104]? = some (.inr (0, 6)) := rfl
theorem s_105 : shp[105]? = some (.inr (0, 6)) := rfl
theorem s_106 : shp[106]? = some (.inr (0, 6)) := rfl
theorem s_107 : shp[107]? = some (.inr (0, 6)) := rfl
theorem s_108 : shp[108]? = some (.inr (1, 6)) := rfl
theorem s_109 : shp[109]? = some (.inr (0, 30)) := rfl
theorem s_110 : shp[110]? = some (.inr (0, 6)) := rfl
theorem s_111 : shp[111]? = some (.inr (0, 6)) := rfl
theorem s_112 : shp[112]? = some (.inr (0, 6)) := rfl
theorem s_113 : shp[113]? = some (.inr (0, 6)) := rfl
theorem s_114 : shp[114]? = some (.inr (2, 1)) := rfl
/-! ===== the words that all methods share ===== -/
def BIG : List Cond := lw_tbl.filter goodWord
theorem bg {w : Cond} (i : Nat) (h : lw_tbl[i]? = some w) (g : goodWord w = true) : w ∈ BIG := List.mem_filter.mpr ⟨List.mem_of_getElem? h, g⟩
theorem big_good : ∀ w ∈ BIG, goodWord w = true := fun _ h => (List.mem_filter.mp h).2
theorem big_in : ∀ w ∈ BIG, w ∈ lw_tbl := fun _ h => (List.mem_filter.mp h).1
theorem big_code {c : Cond} (h : c ∈ BIG) : GoodIn BIG (c :: BIG) := fun w hw => by
  have h1 : w ∈ BIG := (List.mem_cons.mp hw).elim (fun e => by rw [e]; exact h) id
  exact ⟨h1, good_of_word (big_good w h1)⟩
def nestL : List (String × Nat × MethodName) := [(RX2, 40, yX11_isIn), (RX9, 70, yX11_isIn), (RX10, 87, yX11_isIn), (RX6, 65, yX11_isUpTo), (RX6, 68, yX11_isIn), (RX8, 101, yX11_isIn), (RX9, 59, yX11_isUpTo), (RX5, 43, yX11_isIn), (RX1, 60, yX11_isIn), (RX6, 71, yX11_hasPre), (RX6, 75, yX11_triple), (RX0, 81, yX11_isIn)]
def NN (U : State) : Prop := ∀ q ∈ nestL, va_Nw (.methodLinkNest q.1 q.2.1 q.2.2 RX11) U
theorem NN.warm {s U : State} (hW : s.WarmedH U.vm) (h : NN s) : NN U := fun q hq => va_Nw.warmM hW (h q hq)
theorem NN.same {u U : State} (e : u.vm = U.vm) (h : NN u) : NN U := fun q hq => va_Nw.same rfl e (h q hq)
/-! ===== the world at a memory ===== -/
abbrev GX : Type := va_G × ClassId × ClassId × ClassId × (Nat → Nat) × Nat × (Nat → Int64)
abbrev gD (g : GX) : va_G := g.1
abbrev gT (g : GX) : List (ClassId × FieldType) := [(g.2.1, .int), (g.2.2.1, .boolean), (g.2.2.2.1, .long)]
abbrev gr (g : GX) : Nat → Nat := g.2.2.2.2.1
abbrev gb (g : GX) : Nat := g.2.2.2.2.2.1
abbrev gt (g : GX) : Nat → Int64 := g.2.2.2.2.2.2
def cv (ρ : Nat → Nat) : Value → Value
  | .ref k => .ref (ρ k)
  | v => v
def sF (ρ : Nat → Nat) (f : Nat → Int32) : Nat → List (Option Nat) → List Value
  | _, [] => []
  | j, some q :: t => .ref (ρ q) :: sF ρ f (j + 1) t
  | j, none :: t => .int (f j) :: sF ρ f (j + 1) t
def sE (g : GX) (σ : Mem) (k : Nat) : SE → va_E
  | .inl o => .inr (o.1, sF (gr g) (σ k) 0 o.2)
  | .inr (0, n) => .inl (g.2.1, n, .inl (σ k))
  | .inr (1, n) => .inl (g.2.2.1, n, .inl (σ k))
  | .inr (_, n) => .inl (g.2.2.2.1, n, .inr (.inl (gt g)))
def wdL (g : GX) (σ : Mem) : Nat → List SE → va_W
  | _, [] => []
  | k, e :: t => (gr g k, sE g σ k e) :: wdL g σ (k + 1) t
def wd (g : GX) (σ : Mem) : va_W := wdL g σ 0 shp
theorem wdL_get (g : GX) (σ : Mem) : ∀ (L : List SE) (b i : Nat), (wdL g σ b L)[i]? = (L[i]?).map fun e => (gr g (b + i), sE g σ (b + i) e)
  | [], b, i => by simp [wdL]
  | e :: t, b, 0 => by simp [wdL]
  | e :: t, b, i + 1 => by
    simp only [wdL, List.getElem?_cons_succ]
    rw [wdL_get g σ t (b + 1) i, show b + 1 + i = b + (i + 1) by omega]
theorem wd_get {g : GX} {σ : Mem} {k : Nat} {e : SE} (h : shp[k]? = some e) : (wd g σ)[k]? = some (gr g k, sE g σ k e) := by
  unfold wd
  rw [wdL_get, h]
  simp
def setA (σ : Mem) (k : Nat) (f : Nat → Int32) : Mem := fun k' => if k' = k then f else σ k'
def up (σ : Mem) (k j : Nat) (x : Int32) : Mem := setA σ k (upd (σ k) j x)
theorem setA_same (σ : Mem) (k : Nat) (f : Nat → Int32) : setA σ k f k = f := by simp [setA]
theorem setA_ne (σ : Mem) {k k' : Nat} (f : Nat → Int32) (h : k' ≠ k) : setA σ k f k' = σ k' := by simp [setA, h]
theorem sE_off {g : GX} {σ : Mem} {k k' : Nat} (f : Nat → Int32) (e : SE) (h : k' ≠ k) : sE g (setA σ k f) k' e = sE g σ k' e := by
  rcases e with o | ⟨t, n⟩
  · simp [sE, setA_ne _ _ h]
  · match t with
    | 0 => simp [sE, setA_ne _ _ h]
    | 1 => simp [sE, setA_ne _ _ h]
    | _ + 2 => simp [sE]
theorem wd_set {g : GX} {σ : Mem} {k : Nat} {e : SE} (f : Nat → Int32) (h : shp[k]? = some e) : (wd g σ).set k (gr g k, sE g (setA σ k f) k e) = wd g (setA σ k f) := by
  apply List.ext_getElem?
  intro i
  rw [List.getElem?_set]
  unfold wd
  rw [wdL_get, wdL_get]
  by_cases hi : k = i
  · subst hi
    have hk : k < (wdL g σ 0 shp).length := by
      have := wdL_get g σ shp 0 k
      rw [h] at this
      exact (List.getElem?_eq_some_iff.mp this).1
    rw [if_pos rfl, if_pos hk, h]
    simp
  · rw [if_neg hi]
    cases hs : shp[i]? with
    | none => rfl
    | some e' => simp [sE_off f e' (fun q => hi q.symm)]
theorem sF_get {ρ : Nat → Nat} {f : Nat → Int32} : ∀ (L : List (Option Nat)) (b i : Nat), (sF ρ f b L)[i]? = (L[i]?).map fun o => match o with
    | some q => Value.ref (ρ q)
    | none => Value.int (f (b + i))
  | [], b, i => by simp [sF]
  | some q :: t, b, 0 => by simp [sF]
  | none :: t, b, 0 => by simp [sF]
  | some q :: t, b, i + 1 => by
    simp only [sF, List.getElem?_cons_succ]
    rw [sF_get t (b + 1) i, show b + 1 + i = b + (i + 1) by omega]
  | none :: t, b, i + 1 => by
    simp only [sF, List.getElem?_cons_succ]
    rw [sF_get t (b + 1) i, show b + 1 + i = b + (i + 1) by omega]
theorem sF_len {ρ : Nat → Nat} {f : Nat → Int32} : ∀ (L : List (Option Nat)) (b : Nat), (sF ρ f b L).length = L.length
  | [], b => rfl
  | some q :: t, b => by simp [sF, sF_len t]
  | none :: t, b => by simp [sF, sF_len t]
theorem sF_set {ρ : Nat → Nat} {f : Nat → Int32} {L : List (Option Nat)} {j : Nat} (x : Int32) (h : L[j]? = some none) : (sF ρ f 0 L).set j (.int x) = sF ρ (upd f j x) 0 L := by
  apply List.ext_getElem?
  intro i
  rw [List.getElem?_set, sF_get, sF_get]
  by_cases hi : j = i
  · subst hi
    have hj : j < (sF ρ f 0 L).length := by rw [sF_len]; exact (List.getElem?_eq_some_iff.mp h).1
    rw [if_pos rfl, if_pos hj, h]
    simp [upd]
  · rw [if_neg hi]
    have hq : 0 + i ≠ j := by omega
    cases hs : L[i]? with
    | none => rfl
    | some o => cases o <;> simp [upd, hq, show i ≠ j by omega]
/-- what a state holds where the system's memory is σ -/
def HO (g : GX) (σ : Mem) (U : State) : Prop := va_P (gD g) vwCl (wd g σ) U.heap ∧ va_K (gD g) vwCl (gT g) U ∧ va_D (fun q => gb g ≤ q) (wd g σ) ∧ NN U
theorem HO.warm {g : GX} {σ : Mem} {s U : State} (hW : s.WarmedH U.vm) (hH : va_P (gD g) vwCl (wd g σ) U.heap) (h : va_K (gD g) vwCl (gT g) s) (hD : va_D (fun q => gb g ≤ q) (wd g σ)) (hN : NN s) : HO g σ U := ⟨hH, va_K.moved hW.alike h, hD, hN.warm hW⟩
theorem HO.blind {g : GX} {σ : Mem} {as : List Value} : FrameBlind (va_Pc as (HO g σ)) := fun a U gg mk q => ⟨q.1, q.2.1, va_K.moved (u := U) (U := U.calling gg mk a) (Vm.Alike.refl U.vm) q.2.2.1, q.2.2.2.1, NN.same rfl q.2.2.2.2⟩
abbrev rmOf (fr lo : Nat) : Room := { frames := fr, cells := 0, slots := 0, locals := lo }
abbrev gA (g : GX) : Nat → Prop := fun q => gb g ≤ q
/-- a method's contract: if its mirror is some r, then it returns r.1, and leaves the memory r.2 -/
def CI (l : Launch) (y : MethodName) (b : ByteArray) (mL : Nat) (ret : Option FieldType) (fr lo : Nat) (as : List Value) (σ : Mem) (oo : Option (Int32 × Mem)) : Prop :=
  ∀ (g : GX) (r : Int32 × Mem), oo = some r → Met l y (.code y b mL ret :: BIG) (rmOf fr lo) (va_Pc (as.map (cv (gr g))) (HO g σ)) (va_Qi (fun v (_ : Unit) => v = r.1) (fun _ t => HO g r.2 t) (gA g)) 0 0 (gA g)
def CV (l : Launch) (y : MethodName) (b : ByteArray) (mL : Nat) (fr lo : Nat) (as : List Value) (σ : Mem) (oo : Option (Int32 × Mem)) : Prop :=
  ∀ (g : GX) (r : Int32 × Mem), oo = some r → Met l y (.code y b mL none :: BIG) (rmOf fr lo) (va_Pc (as.map (cv (gr g))) (HO g σ)) (va_Qv (fun (_ : Unit) => True) (fun _ t => HO g r.2 t) (gA g)) 0 0 (gA g)
/-! ===== the judgement: where the mirror of what is left to do is oo, and this is the r0 that is wanted, the machine comes to Q ===== -/
abbrev AX : Type := Program × Launch × Env × Room × State × MethodId × Array Value × List Frame × Method × Code × GX × (State → Prop)
def lvO (ρ : Nat → Nat) (lsA : Array Slot) (ls : List (Option Value)) : Prop := lsA.size = ls.length ∧ lv_wf lsA ∧ ∀ (i : Nat) (v : Value), ls[i]? = some (some v) → lsA[i]? = some (.val (cv ρ v)) ∧ v.category = 1
abbrev aP (X : AX) : Program := X.1
abbrev aL (X : AX) : Launch := X.2.1
abbrev aEn (X : AX) : Env := X.2.2.1
abbrev aR (X : AX) : Room := X.2.2.2.1
abbrev aS (X : AX) : State := X.2.2.2.2.1
abbrev aM (X : AX) : MethodId := X.2.2.2.2.2.1
abbrev aArgs (X : AX) : Array Value := X.2.2.2.2.2.2.1
abbrev aBelow (X : AX) : List Frame := X.2.2.2.2.2.2.2.1
abbrev aMeth (X : AX) : Method := X.2.2.2.2.2.2.2.2.1
abbrev aC (X : AX) : Code := X.2.2.2.2.2.2.2.2.2.1
abbrev aG (X : AX) : GX := X.2.2.2.2.2.2.2.2.2.2.1
abbrev aQ (X : AX) : State → Prop := X.2.2.2.2.2.2.2.2.2.2.2
def AW (X : AX) (pc : Nat) (ls : List (Option Value)) (st : List Value) (σ : Mem) : Prop :=
  ∀ (H : Heap) (locs : List Loc) (lsA : Array Slot), lvO (gr (aG X)) lsA ls → va_P (gD (aG X)) vwCl (wd (aG X) σ) H → va_D (gA (aG X)) (wd (aG X) σ) → va_S (gA (aG X)) (aS X).heap H locs →
    W (aP X) (aL X) (aEn X) (aR X) (aS X) (aM X) (aArgs X) (aBelow X) (aMeth X) (aC X) H locs 0 0 (aQ X) (F0 (aM X) pc lsA (st.map (cv (gr (aG X)))))
def AWo {α : Type} (X : AX) (r0 : α) (pc : Nat) (ls : List (Option Value)) (st : List Value) (σ : Mem) (oo : Option α) : Prop := oo = some r0 → AW X pc ls st σ
def CX (X : AX) (cc : ByteArray) (mL : Nat) (own : String) : Prop :=
  (aP X).tables.exec = Jvm.exec ∧ (aC X).code = cc ∧ (aC X).maxLocals = mL ∧ (aS X).vm.findClass own = some (aM X).cls ∧ (∀ w ∈ BIG, w.before (aArgs X) (aS X) = true) ∧ va_K (gD (aG X)) vwCl (gT (aG X)) (aS X) ∧ NN (aS X) ∧ (aMeth X).locks = false ∧ (∀ q, (aS X).heap.size ≤ q → gb (aG X) ≤ q)
def obind {α β : Type} : Option α → (α → Option β) → Option β
  | none, _ => none
  | some a, f => f a
theorem obind_some {α β : Type} (a : α) (f : α → Option β) : obind (some a) f = f a := rfl
theorem obind_of {α β : Type} {oa : Option α} {a : α} (f : α → Option β) (h : oa = some a) : obind oa f = f a := by rw [h]; rfl
theorem obind_inv {α β : Type} {oa : Option α} {f : α → Option β} {b : β} (h : obind oa f = some b) : ∃ a, oa = some a ∧ f a = some b := by
  cases oa with
  | none => cases h
  | some a => exact ⟨a, rfl, h⟩
/-! the reads that a mirror makes -/
def rowA (p : Nat) : Option Nat := match shp[p]? with
  | some (.inl (7, [some q])) => some q
  | _ => none
def arl (a : Nat) : Option Nat := match shp[a]? with
  | some (.inr (0, n)) => some n
  | _ => none
def ald (σ : Mem) (a n : Nat) (i : Int32) : Option Int32 := if i < 0 ∨ n ≤ i.toNatClampNeg then none else some (σ a i.toNatClampNeg)
def ast (σ : Mem) (a n : Nat) (i x : Int32) : Option Mem := if i < 0 ∨ n ≤ i.toNatClampNeg then none else some (up σ a i.toNatClampNeg x)
def zchk (x : Int32) : Option Int32 := if x = 0 then some 0 else if x = 1 then some 1 else none
theorem zchk_some {x y : Int32} (h : zchk x = some y) : y = x ∧ (x = 0 ∨ x = 1) := by
  unfold zchk at h
  by_cases h0 : x = 0
  · rw [if_pos h0] at h
    cases h
    exact ⟨h0.symm, Or.inl h0⟩
  · rw [if_neg h0] at h
    by_cases h1 : x = 1
    · rw [if_pos h1] at h
      cases h
      exact ⟨h1.symm, Or.inr h1⟩
    · rw [if_neg h1] at h
      cases h
theorem ald_some {σ : Mem} {a n : Nat} {i x : Int32} (h : ald σ a n i = some x) : vp_in i n ∧ x = σ a i.toNatClampNeg := by
  unfold ald at h
  by_cases hi : i < 0 ∨ n ≤ i.toNatClampNeg
  · rw [if_pos hi] at h
    cases h
  · rw [if_neg hi] at h
    cases h
    exact ⟨hi, rfl⟩
theorem ast_some {σ σ' : Mem} {a n : Nat} {i x : Int32} (h : ast σ a n i x = some σ') : vp_in i n ∧ σ' = up σ a i.toNatClampNeg x := by
  unfold ast at h
  by_cases hi : i < 0 ∨ n ≤ i.toNatClampNeg
  · rw [if_pos hi] at h
    cases h
  · rw [if_neg hi] at h
    cases h
    exact ⟨hi, rfl⟩
theorem arl_some {a n : Nat} (h : arl a = some n) : shp[a]? = some (.inr (0, n)) := by
  unfold arl at h
  split at h
  · rename_i n' e
    cases h
    exact e
  · cases h
theorem rowA_some {p q : Nat} (h : rowA p = some q) : shp[p]? = some (.inl (7, [some q])) := by
  unfold rowA at h
  split at h
  · rename_i q' e
    cases h
    exact e
  · cases h
/-! ===== locals ===== -/
def lvLst (ρ : Nat → Nat) (ls : List (Option Value)) : List (Nat × Value) := (List.range ls.length).filterMap fun i => ((ls[i]?).join).map fun v => (i, cv ρ v)
theorem cv_cat {ρ : Nat → Nat} (v : Value) : (cv ρ v).category = v.category := by cases v <;> rfl
theorem lvO_has {ρ : Nat → Nat} {lsA : Array Slot} {ls : List (Option Value)} (h : lvO ρ lsA ls) : lv_has lsA ls.length (lvLst ρ ls) := by
  refine ⟨h.1, h.2.1, fun q hq => ?_⟩
  obtain ⟨i, -, hi⟩ := List.mem_filterMap.mp hq
  cases hl : ls[i]? with
  | none => rw [hl] at hi; cases hi
  | some o =>
    cases o with
    | none => rw [hl] at hi; cases hi
    | some v =>
      rw [hl] at hi
      cases hi
      exact (h.2.2 i v hl).1
theorem lvO_put {ρ : Nat → Nat} {lsA' : Array Slot} {ls : List (Option Value)} {i : Nat} {v : Value} (hv : v.category = 1) (hc : ∀ (j : Nat) (u : Value), ls[j]? = some (some u) → u.category = 1) (hi : i < ls.length)
    (h : lv_has lsA' ls.length ((i, cv ρ v) :: (lvLst ρ ls).filter (fun q => !(q.1 == i) && !(q.1 + 1 == i && q.2.category == 2)))) : lvO ρ lsA' (ls.set i (some v)) := by
  refine ⟨by rw [h.1, List.length_set], h.2.1, fun j u hj => ?_⟩
  rw [List.getElem?_set] at hj
  by_cases hij : i = j
  · subst hij
    rw [if_pos rfl, if_pos hi] at hj
    cases hj
    exact ⟨h.2.2 (i, cv ρ v) List.mem_cons_self, hv⟩
  · rw [if_neg hij] at hj
    have hcat := hc j u hj
    refine ⟨h.2.2 (j, cv ρ u) (List.mem_cons_of_mem _ (List.mem_filter.mpr ⟨?_, ?_⟩)), hcat⟩
    · have hjl : j < ls.length := (List.getElem?_eq_some_iff.mp hj).1
      exact List.mem_filterMap.mpr ⟨j, List.mem_range.mpr hjl, by rw [hj]; rfl⟩
    · have h1 : ¬ j = i := fun e => hij e.symm
      simp [h1, cv_cat, hcat]
def lsub : List (Option Value) → List (Option Value) → Prop
  | [], [] => True
  | none :: t, _ :: t' => lsub t t'
  | some v :: t, o :: t' => o = some v ∧ lsub t t'
  | _, _ => False
theorem lsub_len : ∀ {a b : List (Option Value)}, lsub a b → a.length = b.length
  | [], [], _ => rfl
  | none :: t, _ :: t', h => by simp [lsub_len (a := t) (b := t') h]
  | some v :: t, o :: t', h => by simp [lsub_len (a := t) (b := t') h.2]
theorem lsub_get : ∀ {a b : List (Option Value)}, lsub a b → ∀ (i : Nat) (v : Value), a[i]? = some (some v) → b[i]? = some (some v)
  | [], [], _, i, v, hv => by simp at hv
  | none :: t, _ :: t', h, 0, v, hv => by simp at hv
  | none :: t, _ :: t', h, i + 1, v, hv => by simpa using lsub_get (a := t) (b := t') h i v (by simpa using hv)
  | some u :: t, o :: t', h, 0, v, hv => by
    have e : u = v := by simpa using hv
    simp [h.1, e]
  | some u :: t, o :: t', h, i + 1, v, hv => by simpa using lsub_get (a := t) (b := t') h.2 i v (by simpa using hv)
theorem lvO_sub {ρ : Nat → Nat} {lsA : Array Slot} {a b : List (Option Value)} (hs : lsub a b) (h : lvO ρ lsA b) : lvO ρ lsA a := ⟨by rw [h.1, lsub_len hs], h.2.1, fun i v hv => h.2.2 i v (lsub_get hs i v hv)⟩
/-! ===== rows ===== -/
section ROWS
variable {α : Type} {X : AX} {r0 : α} {cc : ByteArray} {mL : Nat} {own : String} {pc pc1 pc2 : Nat} {ls : List (Option Value)} {st : List Value} {σ : Mem} {oo oa ob : Option α}
theorem a_sub {ls' : List (Option Value)} (k : AWo X r0 pc ls' st σ oo) (h : lsub ls' ls) : AWo X r0 pc ls st σ oo := fun ho H locs lsA h1 => k ho H locs lsA (lvO_sub h h1)
theorem a_none : AWo X r0 pc ls st σ (none : Option α) := fun ho => by cases ho
theorem a_iln {i : Nat} {k4 : Fin 4} {x : Int32} (hX : CX X cc mL own) (d : decode cc pc = .ok (.iload_n k4, 1)) (hi : (k4 : Nat) = i) (hl : ls[i]? = some (some (.int x))) (hp : pc + 1 = pc1) (k : AWo X r0 pc1 ls (.int x :: st) σ oo) : AWo X r0 pc ls st σ oo := fun ho H locs lsA h1 h2 h3 h4 => by
  subst hp
  exact lv_iload_n hX.1 hX.2.1 d hi (h1.2.2 i _ hl).1 (k ho H locs lsA h1 h2 h3 h4)
theorem a_ilw {i : Nat} {x : Int32} (hX : CX X cc mL own) (d : decode cc pc = .ok (.iload i, 2)) (hl : ls[i]? = some (some (.int x))) (hp : pc + 2 = pc1) (k : AWo X r0 pc1 ls (.int x :: st) σ oo) : AWo X r0 pc ls st σ oo := fun ho H locs lsA h1 h2 h3 h4 => by
  subst hp
  exact lv_iload hX.1 hX.2.1 d (h1.2.2 i _ hl).1 (k ho H locs lsA h1 h2 h3 h4)
theorem a_aln {i : Nat} {k4 : Fin 4} {x : Nat} (hX : CX X cc mL own) (d : decode cc pc = .ok (.aload_n k4, 1)) (hi : (k4 : Nat) = i) (hl : ls[i]? = some (some (.ref x))) (hp : pc + 1 = pc1) (k : AWo X r0 pc1 ls (.ref x :: st) σ oo) : AWo X r0 pc ls st σ oo := fun ho H locs lsA h1 h2 h3 h4 => by
  subst hp
  exact lv_aload_n (x := gr (aG X) x) hX.1 hX.2.1 d hi (h1.2.2 i _ hl).1 (k ho H locs lsA h1 h2 h3 h4)
theorem a_alw {i : Nat} {x : Nat} (hX : CX X cc mL own) (d : decode cc pc = .ok (.aload i, 2)) (hl : ls[i]? = some (some (.ref x))) (hp : pc + 2 = pc1) (k : AWo X r0 pc1 ls (.ref x :: st) σ oo) : AWo X r0 pc ls st σ oo := fun ho H locs lsA h1 h2 h3 h4 => by
  subst hp
  exact lv_aload (x := gr (aG X) x) hX.1 hX.2.1 d (h1.2.2 i _ hl).1 (k ho H locs lsA h1 h2 h3 h4)
theorem lvO_cat {ρ : Nat → Nat} {lsA : Array Slot} (h : lvO ρ lsA ls) : ∀ (j : Nat) (u : Value), ls[j]? = some (some u) → u.category = 1 := fun j u hj => (h.2.2 j u hj).2
theorem a_isn {i : Nat} {k4 : Fin 4} {x : Int32} (hX : CX X cc mL own) (d : decode cc pc = .ok (.istore_n k4, 1)) (hi : (k4 : Nat) = i) (hn : i < ls.length) (hp : pc + 1 = pc1) (k : AWo X r0 pc1 (ls.set i (some (.int x))) st σ oo) : AWo X r0 pc ls (.int x :: st) σ oo := fun ho H locs lsA h1 h2 h3 h4 => by
  subst hp
  exact lv_istore_n hX.1 hX.2.1 d hi (lvO_has h1) hn rfl (fun ls' hl' => k ho H locs ls' (lvO_put (v := .int x) rfl (lvO_cat h1) hn hl') h2 h3 h4)
theorem a_isw {i : Nat} {x : Int32} (hX : CX X cc mL own) (d : decode cc pc = .ok (.istore i, 2)) (hn : i < ls.length) (hp : pc + 2 = pc1) (k : AWo X r0 pc1 (ls.set i (some (.int x))) st σ oo) : AWo X r0 pc ls (.int x :: st) σ oo := fun ho H locs lsA h1 h2 h3 h4 => by
  subst hp
  exact lv_istore hX.1 hX.2.1 d (lvO_has h1) hn rfl (fun ls' hl' => k ho H locs ls' (lvO_put (v := .int x) rfl (lvO_cat h1) hn hl') h2 h3 h4)
theorem lvLst_mem {ρ : Nat → Nat} {i : Nat} {v : Value} (h : ls[i]? = some (some v)) : ∃ k : Nat, (lvLst ρ ls)[k]? = some (i, cv ρ v) := by
  have hjl : i < ls.length := (List.getElem?_eq_some_iff.mp h).1
  exact List.getElem?_of_mem (List.mem_filterMap.mpr ⟨i, List.mem_range.mpr hjl, by rw [h]; rfl⟩)
theorem a_incw {i : Nat} {x v : Int32} {n : Int} (hX : CX X cc mL own) (d : decode cc pc = .ok (.iinc i n, 3)) (hl : ls[i]? = some (some (.int x))) (hn : i < ls.length) (hv : Int32.ofInt n = v) (hp : pc + 3 = pc1) (k : AWo X r0 pc1 (ls.set i (some (.int (x + v)))) st σ oo) : AWo X r0 pc ls st σ oo := fun ho H locs lsA h1 h2 h3 h4 => by
  subst hp; subst hv
  obtain ⟨k9, hk9⟩ := lvLst_mem (ρ := gr (aG X)) hl
  exact lv_iinc hX.1 hX.2.1 d (lvO_has h1) hk9 rfl hn rfl (fun ls' hl' => k ho H locs ls' (lvO_put (v := .int (x + Int32.ofInt n)) rfl (lvO_cat h1) hn hl') h2 h3 h4)
theorem a_ic {n : Int} (v : Int32) (hX : CX X cc mL own) (d : decode cc pc = .ok (.iconst n, 1)) (hv : Int32.ofInt n = v) (hp : pc + 1 = pc1) (k : AWo X r0 pc1 ls (.int v :: st) σ oo) : AWo X r0 pc ls st σ oo := fun ho H locs lsA h1 h2 h3 h4 => by
  subst hp
  exact lv_iconst hX.1 hX.2.1 d hv (k ho H locs lsA h1 h2 h3 h4)
theorem a_bi {n : Int} (v : Int32) (hX : CX X cc mL own) (d : decode cc pc = .ok (.bipush n, 2)) (hv : (Int8.ofInt n).toInt32 = v) (hp : pc + 2 = pc1) (k : AWo X r0 pc1 ls (.int v :: st) σ oo) : AWo X r0 pc ls st σ oo := fun ho H locs lsA h1 h2 h3 h4 => by
  subst hp
  exact lv_bipush hX.1 hX.2.1 d hv (k ho H locs lsA h1 h2 h3 h4)
theorem a_si {n : Int} (v : Int32) (hX : CX X cc mL own) (d : decode cc pc = .ok (.sipush n, 3)) (hv : (Int16.ofInt n).toInt32 = v) (hp : pc + 3 = pc1) (k : AWo X r0 pc1 ls (.int v :: st) σ oo) : AWo X r0 pc ls st σ oo := fun ho H locs lsA h1 h2 h3 h4 => by
  subst hp
  exact lv_sipush hX.1 hX.2.1 d hv (k ho H locs lsA h1 h2 h3 h4)
theorem a_ldc {idx : Nat} (v : Int32) (hX : CX X cc mL own) (hc : Cond.constant own idx v ∈ BIG) (d : decode cc pc = .ok (.ldc idx, 2)) (hp : pc + 2 = pc1) (k : AWo X r0 pc1 ls (.int v :: st) σ oo) : AWo X r0 pc ls st σ oo := fun ho H locs lsA h1 h2 h3 h4 => by
  subst hp
  exact lv_ldc hX.1 hX.2.1 hX.2.2.2.1 (hX.2.2.2.2.1 _ hc) d (k ho H locs lsA h1 h2 h3 h4)
theorem a_ldcw {idx : Nat} (v : Int32) (hX : CX X cc mL own) (hc : Cond.constant own idx v ∈ BIG) (d : decode cc pc = .ok (.ldc_w idx, 3)) (hp : pc + 3 = pc1) (k : AWo X r0 pc1 ls (.int v :: st) σ oo) : AWo X r0 pc ls st σ oo := fun ho H locs lsA h1 h2 h3 h4 => by
  subst hp
  exact lv_ldcw hX.1 hX.2.1 hX.2.2.2.1 (hX.2.2.2.2.1 _ hc) d (k ho H locs lsA h1 h2 h3 h4)
theorem a_iadd {x y : Int32} (hX : CX X cc mL own) (d : decode cc pc = .ok (.iadd, 1)) (hp : pc + 1 = pc1) (k : AWo X r0 pc1 ls (.int (x + y) :: st) σ oo) : AWo X r0 pc ls (.int y :: .int x :: st) σ oo := fun ho H locs lsA h1 h2 h3 h4 => by
  subst hp
  exact lv_iadd hX.1 hX.2.1 d (k ho H locs lsA h1 h2 h3 h4)
theorem a_isub {x y : Int32} (hX : CX X cc mL own) (d : decode cc pc = .ok (.isub, 1)) (hp : pc + 1 = pc1) (k : AWo X r0 pc1 ls (.int (x - y) :: st) σ oo) : AWo X r0 pc ls (.int y :: .int x :: st) σ oo := fun ho H locs lsA h1 h2 h3 h4 => by
  subst hp
  exact lv_isub hX.1 hX.2.1 d (k ho H locs lsA h1 h2 h3 h4)
theorem a_imul {x y : Int32} (hX : CX X cc mL own) (d : decode cc pc = .ok (.imul, 1)) (hp : pc + 1 = pc1) (k : AWo X r0 pc1 ls (.int (x * y) :: st) σ oo) : AWo X r0 pc ls (.int y :: .int x :: st) σ oo := fun ho H locs lsA h1 h2 h3 h4 => by
  subst hp
  exact lv_imul hX.1 hX.2.1 d (k ho H locs lsA h1 h2 h3 h4)
theorem a_iand {x y : Int32} (hX : CX X cc mL own) (d : decode cc pc = .ok (.iand, 1)) (hp : pc + 1 = pc1) (k : AWo X r0 pc1 ls (.int (x &&& y) :: st) σ oo) : AWo X r0 pc ls (.int y :: .int x :: st) σ oo := fun ho H locs lsA h1 h2 h3 h4 => by
  subst hp
  exact lv_iand hX.1 hX.2.1 d (k ho H locs lsA h1 h2 h3 h4)
theorem a_ior {x y : Int32} (hX : CX X cc mL own) (d : decode cc pc = .ok (.ior, 1)) (hp : pc + 1 = pc1) (k : AWo X r0 pc1 ls (.int (x ||| y) :: st) σ oo) : AWo X r0 pc ls (.int y :: .int x :: st) σ oo := fun ho H locs lsA h1 h2 h3 h4 => by
  subst hp
  exact lv_ior hX.1 hX.2.1 d (k ho H locs lsA h1 h2 h3 h4)
theorem a_ixor {x y : Int32} (hX : CX X cc mL own) (d : decode cc pc = .ok (.ixor, 1)) (hp : pc + 1 = pc1) (k : AWo X r0 pc1 ls (.int (x ^^^ y) :: st) σ oo) : AWo X r0 pc ls (.int y :: .int x :: st) σ oo := fun ho H locs lsA h1 h2 h3 h4 => by
  subst hp
  exact lv_ixor hX.1 hX.2.1 d (k ho H locs lsA h1 h2 h3 h4)
theorem a_ishl {x y : Int32} (hX : CX X cc mL own) (d : decode cc pc = .ok (.ishl, 1)) (hp : pc + 1 = pc1) (k : AWo X r0 pc1 ls (.int (x <<< (y &&& 31)) :: st) σ oo) : AWo X r0 pc ls (.int y :: .int x :: st) σ oo := fun ho H locs lsA h1 h2 h3 h4 => by
  subst hp
  exact lv_ishl hX.1 hX.2.1 d (k ho H locs lsA h1 h2 h3 h4)
theorem a_ishr {x y : Int32} (hX : CX X cc mL own) (d : decode cc pc = .ok (.ishr, 1)) (hp : pc + 1 = pc1) (k : AWo X r0 pc1 ls (.int (x >>> (y &&& 31)) :: st) σ oo) : AWo X r0 pc ls (.int y :: .int x :: st) σ oo := fun ho H locs lsA h1 h2 h3 h4 => by
  subst hp
  exact lv_ishr hX.1 hX.2.1 d (k ho H locs lsA h1 h2 h3 h4)
def ushr (x y : Int32) : Int32 := (x.toUInt32 >>> (y.toUInt32 &&& Int32.toUInt32 31)).toInt32
theorem a_iushr {x y : Int32} (hX : CX X cc mL own) (d : decode cc pc = .ok (.iushr, 1)) (hp : pc + 1 = pc1) (k : AWo X r0 pc1 ls (.int (ushr x y) :: st) σ oo) : AWo X r0 pc ls (.int y :: .int x :: st) σ oo := fun ho H locs lsA h1 h2 h3 h4 => by
  subst hp
  exact lv_iushr hX.1 hX.2.1 d rfl (k ho H locs lsA h1 h2 h3 h4)
theorem a_irem {x y : Int32} (hX : CX X cc mL own) (d : decode cc pc = .ok (.irem, 1)) (hne : ¬ y = 0) (hp : pc + 1 = pc1) (k : AWo X r0 pc1 ls (.int (x - x / y * y) :: st) σ oo) : AWo X r0 pc ls (.int y :: .int x :: st) σ oo := fun ho H locs lsA h1 h2 h3 h4 => by
  subst hp
  exact lv_irem hX.1 hX.2.1 d hne (k ho H locs lsA h1 h2 h3 h4)
theorem a_idiv {x y : Int32} (hX : CX X cc mL own) (d : decode cc pc = .ok (.idiv, 1)) (hne : ¬ y = 0) (hp : pc + 1 = pc1) (k : AWo X r0 pc1 ls (.int (x / y) :: st) σ oo) : AWo X r0 pc ls (.int y :: .int x :: st) σ oo := fun ho H locs lsA h1 h2 h3 h4 => by
  subst hp
  exact lv_idiv hX.1 hX.2.1 d hne (k ho H locs lsA h1 h2 h3 h4)
theorem a_dup {v : Value} (hX : CX X cc mL own) (d : decode cc pc = .ok (.dup, 1)) (hv : v.category = 1) (hp : pc + 1 = pc1) (k : AWo X r0 pc1 ls (v :: v :: st) σ oo) : AWo X r0 pc ls (v :: st) σ oo := fun ho H locs lsA h1 h2 h3 h4 => by
  subst hp
  exact lv_dup hX.1 hX.2.1 d (by rw [cv_cat]; exact hv) (k ho H locs lsA h1 h2 h3 h4)
theorem a_dup2 {v u : Value} (hX : CX X cc mL own) (d : decode cc pc = .ok (.dup2, 1)) (hv : v.category = 1) (hu : u.category = 1) (hp : pc + 1 = pc1) (k : AWo X r0 pc1 ls (v :: u :: v :: u :: st) σ oo) : AWo X r0 pc ls (v :: u :: st) σ oo := fun ho H locs lsA h1 h2 h3 h4 => by
  subst hp
  exact lv_dup2_11 hX.1 hX.2.1 d (by rw [cv_cat]; exact hv) (by rw [cv_cat]; exact hu) (k ho H locs lsA h1 h2 h3 h4)
theorem a_pop {v : Value} (hX : CX X cc mL own) (d : decode cc pc = .ok (.pop, 1)) (hv : v.category = 1) (hp : pc + 1 = pc1) (k : AWo X r0 pc1 ls st σ oo) : AWo X r0 pc ls (v :: st) σ oo := fun ho H locs lsA h1 h2 h3 h4 => by
  subst hp
  exact lv_pop hX.1 hX.2.1 d (by rw [cv_cat]; exact hv) (k ho H locs lsA h1 h2 h3 h4)
theorem a_goto {off : Int} (hX : CX X cc mL own) (d : decode cc pc = .ok (.goto off, 3)) (ht : (pc : Int) + off = (pc1 : Int)) (k : AWo X r0 pc1 ls st σ oo) : AWo X r0 pc ls st σ oo := fun ho H locs lsA h1 h2 h3 h4 =>
  lv_goto hX.1 hX.2.1 d ht (k ho H locs lsA h1 h2 h3 h4)
end ROWS

theorem a_il0 {α : Type} {X : AX} {r0 : α} {cc : ByteArray} {mL : Nat} {own : String} {pc pc1 : Nat} {st : List Value} {σ : Mem} {oo : Option α} {t : List (Option Value)} {x : Int32} (hX : CX X cc mL own) (d : decode cc pc = .ok (.iload_n 0, 1)) (hp : pc + 1 = pc1) (k : AWo X r0 pc1 (some (.int x) :: t) (.int x :: st) σ oo) : AWo X r0 pc (some (.int x) :: t) st σ oo := a_iln (i := 0) hX d rfl rfl hp k
theorem a_al0 {α : Type} {X : AX} {r0 : α} {cc : ByteArray} {mL : Nat} {own : String} {pc pc1 : Nat} {st : List Value} {σ : Mem} {oo : Option α} {t : List (Option Value)} {x : Nat} (hX : CX X cc mL own) (d : decode cc pc = .ok (.aload_n 0, 1)) (hp : pc + 1 = pc1) (k : AWo X r0 pc1 (some (.ref x) :: t) (.ref x :: st) σ oo) : AWo X r0 pc (some (.ref x) :: t) st σ oo := a_aln (i := 0) hX d rfl rfl hp k
theorem a_is0 {α : Type} {X : AX} {r0 : α} {cc : ByteArray} {mL : Nat} {own : String} {pc pc1 : Nat} {st : List Value} {σ : Mem} {oo : Option α} {ai : Option Value} {t : List (Option Value)} {x : Int32} (hX : CX X cc mL own) (d : decode cc pc = .ok (.istore_n 0, 1)) (hp : pc + 1 = pc1) (k : AWo X r0 pc1 (some (.int x) :: t) st σ oo) : AWo X r0 pc (ai :: t) (.int x :: st) σ oo := a_isn (i := 0) hX d rfl (by simp) hp k
theorem a_inc0 {α : Type} {X : AX} {r0 : α} {cc : ByteArray} {mL : Nat} {own : String} {pc pc1 : Nat} {st : List Value} {σ : Mem} {oo : Option α} {t : List (Option Value)} {x : Int32} {n : Int} (v : Int32) (hX : CX X cc mL own) (d : decode cc pc = .ok (.iinc 0 n, 3)) (hv : Int32.ofInt n = v) (hp : pc + 3 = pc1) (k : AWo X r0 pc1 (some (.int (x + v)) :: t) st σ oo) : AWo X r0 pc (some (.int x) :: t) st σ oo := a_incw (i := 0) hX d rfl (by simp) hv hp k
theorem a_il1 {α : Type} {X : AX} {r0 : α} {cc : ByteArray} {mL : Nat} {own : String} {pc pc1 : Nat} {st : List Value} {σ : Mem} {oo : Option α} {a0 : Option Value} {t : List (Option Value)} {x : Int32} (hX : CX X cc mL own) (d : decode cc pc = .ok (.iload_n 1, 1)) (hp : pc + 1 = pc1) (k : AWo X r0 pc1 (a0 :: some (.int x) :: t) (.int x :: st) σ oo) : AWo X r0 pc (a0 :: some (.int x) :: t) st σ oo := a_iln (i := 1) hX d rfl rfl hp k
theorem a_al1 {α : Type} {X : AX} {r0 : α} {cc : ByteArray} {mL : Nat} {own : String} {pc pc1 : Nat} {st : List Value} {σ : Mem} {oo : Option α} {a0 : Option Value} {t : List (Option Value)} {x : Nat} (hX : CX X cc mL own) (d : decode cc pc = .ok (.aload_n 1, 1)) (hp : pc + 1 = pc1) (k : AWo X r0 pc1 (a0 :: some (.ref x) :: t) (.ref x :: st) σ oo) : AWo X r0 pc (a0 :: some (.ref x) :: t) st σ oo := a_aln (i := 1) hX d rfl rfl hp k
theorem a_is1 {α : Type} {X : AX} {r0 : α} {cc : ByteArray} {mL : Nat} {own : String} {pc pc1 : Nat} {st : List Value} {σ : Mem} {oo : Option α} {a0 : Option Value} {ai : Option Value} {t : List (Option Value)} {x : Int32} (hX : CX X cc mL own) (d : decode cc pc = .ok (.istore_n 1, 1)) (hp : pc + 1 = pc1) (k : AWo X r0 pc1 (a0 :: some (.int x) :: t) st σ oo) : AWo X r0 pc (a0 :: ai :: t) (.int x :: st) σ oo := a_isn (i := 1) hX d rfl (by simp) hp k
theorem a_inc1 {α : Type} {X : AX} {r0 : α} {cc : ByteArray} {mL : Nat} {own : String} {pc pc1 : Nat} {st : List Value} {σ : Mem} {oo : Option α} {a0 : Option Value} {t : List (Option Value)} {x : Int32} {n : Int} (v : Int32) (hX : CX X cc mL own) (d : decode cc pc = .ok (.iinc 1 n, 3)) (hv : Int32.ofInt n = v) (hp : pc + 3 = pc1) (k : AWo X r0 pc1 (a0 :: some (.int (x + v)) :: t) st σ oo) : AWo X r0 pc (a0 :: some (.int x) :: t) st σ oo := a_incw (i := 1) hX d rfl (by simp) hv hp k
theorem a_il2 {α : Type} {X : AX} {r0 : α} {cc : ByteArray} {mL : Nat} {own : String} {pc pc1 : Nat} {st : List Value} {σ : Mem} {oo : Option α} {a0 a1 : Option Value} {t : List (Option Value)} {x : Int32} (hX : CX X cc mL own) (d : decode cc pc = .ok (.iload_n 2, 1)) (hp : pc + 1 = pc1) (k : AWo X r0 pc1 (a0 :: a1 :: some (.int x) :: t) (.int x :: st) σ oo) : AWo X r0 pc (a0 :: a1 :: some (.int x) :: t) st σ oo := a_iln (i := 2) hX d rfl rfl hp k
theorem a_al2 {α : Type} {X : AX} {r0 : α} {cc : ByteArray} {mL : Nat} {own : String} {pc pc1 : Nat} {st : List Value} {σ : Mem} {oo : Option α} {a0 a1 : Option Value} {t : List (Option Value)} {x : Nat} (hX : CX X cc mL own) (d : decode cc pc = .ok (.aload_n 2, 1)) (hp : pc + 1 = pc1) (k : AWo X r0 pc1 (a0 :: a1 :: some (.ref x) :: t) (.ref x :: st) σ oo) : AWo X r0 pc (a0 :: a1 :: some (.ref x) :: t) st σ oo := a_aln (i := 2) hX d rfl rfl hp k
theorem a_is2 {α : Type} {X : AX} {r0 : α} {cc : ByteArray} {mL : Nat} {own : String} {pc pc1 : Nat} {st : List Value} {σ : Mem} {oo : Option α} {a0 a1 : Option Value} {ai : Option Value} {t : List (Option Value)} {x : Int32} (hX : CX X cc mL own) (d : decode cc pc = .ok (.istore_n 2, 1)) (hp : pc + 1 = pc1) (k : AWo X r0 pc1 (a0 :: a1 :: some (.int x) :: t) st σ oo) : AWo X r0 pc (a0 :: a1 :: ai :: t) (.int x :: st) σ oo := a_isn (i := 2) hX d rfl (by simp) hp k
theorem a_inc2 {α : Type} {X : AX} {r0 : α} {cc : ByteArray} {mL : Nat} {own : String} {pc pc1 : Nat} {st : List Value} {σ : Mem} {oo : Option α} {a0 a1 : Option Value} {t : List (Option Value)} {x : Int32} {n : Int} (v : Int32) (hX : CX X cc mL own) (d : decode cc pc = .ok (.iinc 2 n, 3)) (hv : Int32.ofInt n = v) (hp : pc + 3 = pc1) (k : AWo X r0 pc1 (a0 :: a1 :: some (.int (x + v)) :: t) st σ oo) : AWo X r0 pc (a0 :: a1 :: some (.int x) :: t) st σ oo := a_incw (i := 2) hX d rfl (by simp) hv hp k
theorem a_il3 {α : Type} {X : AX} {r0 : α} {cc : ByteArray} {mL : Nat} {own : String} {pc pc1 : Nat} {st : List Value} {σ : Mem} {oo : Option α} {a0 a1 a2 : Option Value} {t : List (Option Value)} {x : Int32} (hX : CX X cc mL own) (d : decode cc pc = .ok (.iload_n 3, 1)) (hp : pc + 1 = pc1) (k : AWo X r0 pc1 (a0 :: a1 :: a2 :: some (.int x) :: t) (.int x :: st) σ oo) : AWo X r0 pc (a0 :: a1 :: a2 :: some (.int x) :: t) st σ oo := a_iln (i := 3) hX d rfl rfl hp k
theorem a_al3 {α : Type} {X : AX} {r0 : α} {cc : ByteArray} {mL : Nat} {own : String} {pc pc1 : Nat} {st : List Value} {σ : Mem} {oo : Option α} {a0 a1 a2 : Option Value} {t : List (Option Value)} {x : Nat} (hX : CX X cc mL own) (d : decode cc pc = .ok (.aload_n 3, 1)) (hp : pc + 1 = pc1) (k : AWo X r0 pc1 (a0 :: a1 :: a2 :: some (.ref x) :: t) (.ref x :: st) σ oo) : AWo X r0 pc (a0 :: a1 :: a2 :: some (.ref x) :: t) st σ oo := a_aln (i := 3) hX d rfl rfl hp k
theorem a_is3 {α : Type} {X : AX} {r0 : α} {cc : ByteArray} {mL : Nat} {own : String} {pc pc1 : Nat} {st : List Value} {σ : Mem} {oo : Option α} {a0 a1 a2 : Option Value} {ai : Option Value} {t : List (Option Value)} {x : Int32} (hX : CX X cc mL own) (d : decode cc pc = .ok (.istore_n 3, 1)) (hp : pc + 1 = pc1) (k : AWo X r0 pc1 (a0 :: a1 :: a2 :: some (.int x) :: t) st σ oo) : AWo X r0 pc (a0 :: a1 :: a2 :: ai :: t) (.int x :: st) σ oo := a_isn (i := 3) hX d rfl (by simp) hp k
theorem a_inc3 {α : Type} {X : AX} {r0 : α} {cc : ByteArray} {mL : Nat} {own : String} {pc pc1 : Nat} {st : List Value} {σ : Mem} {oo : Option α} {a0 a1 a2 : Option Value} {t : List (Option Value)} {x : Int32} {n : Int} (v : Int32) (hX : CX X cc mL own) (d : decode cc pc = .ok (.iinc 3 n, 3)) (hv : Int32.ofInt n = v) (hp : pc + 3 = pc1) (k : AWo X r0 pc1 (a0 :: a1 :: a2 :: some (.int (x + v)) :: t) st σ oo) : AWo X r0 pc (a0 :: a1 :: a2 :: some (.int x) :: t) st σ oo := a_incw (i := 3) hX d rfl (by simp) hv hp k
theorem a_il4 {α : Type} {X : AX} {r0 : α} {cc : ByteArray} {mL : Nat} {own : String} {pc pc1 : Nat} {st : List Value} {σ : Mem} {oo : Option α} {a0 a1 a2 a3 : Option Value} {t : List (Option Value)} {x : Int32} (hX : CX X cc mL own) (d : decode cc pc = .ok (.iload 4, 2)) (hp : pc + 2 = pc1) (k : AWo X r0 pc1 (a0 :: a1 :: a2 :: a3 :: some (.int x) :: t) (.int x :: st) σ oo) : AWo X r0 pc (a0 :: a1 :: a2 :: a3 :: some (.int x) :: t) st σ oo := a_ilw (i := 4) hX d rfl hp k
theorem a_al4 {α : Type} {X : AX} {r0 : α} {cc : ByteArray} {mL : Nat} {own : String} {pc pc1 : Nat} {st : List Value} {σ : Mem} {oo : Option α} {a0 a1 a2 a3 : Option Value} {t : List (Option Value)} {x : Nat} (hX : CX X cc mL own) (d : decode cc pc = .ok (.aload 4, 2)) (hp : pc + 2 = pc1) (k : AWo X r0 pc1 (a0 :: a1 :: a2 :: a3 :: some (.ref x) :: t) (.ref x :: st) σ oo) : AWo X r0 pc (a0 :: a1 :: a2 :: a3 :: some (.ref x) :: t) st σ oo := a_alw (i := 4) hX d rfl hp k
theorem a_is4 {α : Type} {X : AX} {r0 : α} {cc : ByteArray} {mL : Nat} {own : String} {pc pc1 : Nat} {st : List Value} {σ : Mem} {oo : Option α} {a0 a1 a2 a3 : Option Value} {ai : Option Value} {t : List (Option Value)} {x : Int32} (hX : CX X cc mL own) (d : decode cc pc = .ok (.istore 4, 2)) (hp : pc + 2 = pc1) (k : AWo X r0 pc1 (a0 :: a1 :: a2 :: a3 :: some (.int x) :: t) st σ oo) : AWo X r0 pc (a0 :: a1 :: a2 :: a3 :: ai :: t) (.int x :: st) σ oo := a_isw (i := 4) hX d (by simp) hp k
theorem a_inc4 {α : Type} {X : AX} {r0 : α} {cc : ByteArray} {mL : Nat} {own : String} {pc pc1 : Nat} {st : List Value} {σ : Mem} {oo : Option α} {a0 a1 a2 a3 : Option Value} {t : List (Option Value)} {x : Int32} {n : Int} (v : Int32) (hX : CX X cc mL own) (d : decode cc pc = .ok (.iinc 4 n, 3)) (hv : Int32.ofInt n = v) (hp : pc + 3 = pc1) (k : AWo X r0 pc1 (a0 :: a1 :: a2 :: a3 :: some (.int (x + v)) :: t) st σ oo) : AWo X r0 pc (a0 :: a1 :: a2 :: a3 :: some (.int x) :: t) st σ oo := a_incw (i := 4) hX d rfl (by simp) hv hp k
theorem a_il5 {α : Type} {X : AX} {r0 : α} {cc : ByteArray} {mL : Nat} {own : String} {pc pc1 : Nat} {st : List Value} {σ : Mem} {oo : Option α} {a0 a1 a2 a3 a4 : Option Value} {t : List (Option Value)} {x : Int32} (hX : CX X cc mL own) (d : decode cc pc = .ok (.iload 5, 2)) (hp : pc + 2 = pc1) (k : AWo X r0 pc1 (a0 :: a1 :: a2 :: a3 :: a4 :: some (.int x) :: t) (.int x :: st) σ oo) : AWo X r0 pc (a0 :: a1 :: a2 :: a3 :: a4 :: some (.int x) :: t) st σ oo := a_ilw (i := 5) hX d rfl hp k
theorem a_al5 {α : Type} {X : AX} {r0 : α} {cc : ByteArray} {mL : Nat} {own : String} {pc pc1 : Nat} {st : List Value} {σ : Mem} {oo : Option α} {a0 a1 a2 a3 a4 : Option Value} {t : List (Option Value)} {x : Nat} (hX : CX X cc mL own) (d : decode cc pc = .ok (.aload 5, 2)) (hp : pc + 2 = pc1) (k : AWo X r0 pc1 (a0 :: a1 :: a2 :: a3 :: a4 :: some (.ref x) :: t) (.ref x :: st) σ oo) : AWo X r0 pc (a0 :: a1 :: a2 :: a3 :: a4 :: some (.ref x) :: t) st σ oo := a_alw (i := 5) hX d rfl hp k
theorem a_is5 {α : Type} {X : AX} {r0 : α} {cc : ByteArray} {mL : Nat} {own : String} {pc pc1 : Nat} {st : List Value} {σ : Mem} {oo : Option α} {a0 a1 a2 a3 a4 : Option Value} {ai : Option Value} {t : List (Option Value)} {x : Int32} (hX : CX X cc mL own) (d : decode cc pc = .ok (.istore 5, 2)) (hp : pc + 2 = pc1) (k : AWo X r0 pc1 (a0 :: a1 :: a2 :: a3 :: a4 :: some (.int x) :: t) st σ oo) : AWo X r0 pc (a0 :: a1 :: a2 :: a3 :: a4 :: ai :: t) (.int x :: st) σ oo := a_isw (i := 5) hX d (by simp) hp k
theorem a_inc5 {α : Type} {X : AX} {r0 : α} {cc : ByteArray} {mL : Nat} {own : String} {pc pc1 : Nat} {st : List Value} {σ : Mem} {oo : Option α} {a0 a1 a2 a3 a4 : Option Value} {t : List (Option Value)} {x : Int32} {n : Int} (v : Int32) (hX : CX X cc mL own) (d : decode cc pc = .ok (.iinc 5 n, 3)) (hv : Int32.ofInt n = v) (hp : pc + 3 = pc1) (k : AWo X r0 pc1 (a0 :: a1 :: a2 :: a3 :: a4 :: some (.int (x + v)) :: t) st σ oo) : AWo X r0 pc (a0 :: a1 :: a2 :: a3 :: a4 :: some (.int x) :: t) st σ oo := a_incw (i := 5) hX d rfl (by simp) hv hp k
theorem a_il6 {α : Type} {X : AX} {r0 : α} {cc : ByteArray} {mL : Nat} {own : String} {pc pc1 : Nat} {st : List Value} {σ : Mem} {oo : Option α} {a0 a1 a2 a3 a4 a5 : Option Value} {t : List (Option Value)} {x : Int32} (hX : CX X cc mL own) (d : decode cc pc = .ok (.iload 6, 2)) (hp : pc + 2 = pc1) (k : AWo X r0 pc1 (a0 :: a1 :: a2 :: a3 :: a4 :: a5 :: some (.int x) :: t) (.int x :: st) σ oo) : AWo X r0 pc (a0 :: a1 :: a2 :: a3 :: a4 :: a5 :: some (.int x) :: t) st σ oo := a_ilw (i := 6) hX d rfl hp k
theorem a_al6 {α : Type} {X : AX} {r0 : α} {cc : ByteArray} {mL : Nat} {own : String} {pc pc1 : Nat} {st : List Value} {σ : Mem} {oo : Option α} {a0 a1 a2 a3 a4 a5 : Option Value} {t : List (Option Value)} {x : Nat} (hX : CX X cc mL own) (d : decode cc pc = .ok (.aload 6, 2)) (hp : pc + 2 = pc1) (k : AWo X r0 pc1 (a0 :: a1 :: a2 :: a3 :: a4 :: a5 :: some (.ref x) :: t) (.ref x :: st) σ oo) : AWo X r0 pc (a0 :: a1 :: a2 :: a3 :: a4 :: a5 :: some (.ref x) :: t) st σ oo := a_alw (i := 6) hX d rfl hp k
theorem a_is6 {α : Type} {X : AX} {r0 : α} {cc : ByteArray} {mL : Nat} {own : String} {pc pc1 : Nat} {st : List Value} {σ : Mem} {oo : Option α} {a0 a1 a2 a3 a4 a5 : Option Value} {ai : Option Value} {t : List (Option Value)} {x : Int32} (hX : CX X cc mL own) (d : decode cc pc = .ok (.istore 6, 2)) (hp : pc + 2 = pc1) (k : AWo X r0 pc1 (a0 :: a1 :: a2 :: a3 :: a4 :: a5 :: some (.int x) :: t) st σ oo) : AWo X r0 pc (a0 :: a1 :: a2 :: a3 :: a4 :: a5 :: ai :: t) (.int x :: st) σ oo := a_isw (i := 6) hX d (by simp) hp k
theorem a_inc6 {α : Type} {X : AX} {r0 : α} {cc : ByteArray} {mL : Nat} {own : String} {pc pc1 : Nat} {st : List Value} {σ : Mem} {oo : Option α} {a0 a1 a2 a3 a4 a5 : Option Value} {t : List (Option Value)} {x : Int32} {n : Int} (v : Int32) (hX : CX X cc mL own) (d : decode cc pc = .ok (.iinc 6 n, 3)) (hv : Int32.ofInt n = v) (hp : pc + 3 = pc1) (k : AWo X r0 pc1 (a0 :: a1 :: a2 :: a3 :: a4 :: a5 :: some (.int (x + v)) :: t) st σ oo) : AWo X r0 pc (a0 :: a1 :: a2 :: a3 :: a4 :: a5 :: some (.int x) :: t) st σ oo := a_incw (i := 6) hX d rfl (by simp) hv hp k
theorem a_il7 {α : Type} {X : AX} {r0 : α} {cc : ByteArray} {mL : Nat} {own : String} {pc pc1 : Nat} {st : List Value} {σ : Mem} {oo : Option α} {a0 a1 a2 a3 a4 a5 a6 : Option Value} {t : List (Option Value)} {x : Int32} (hX : CX X cc mL own) (d : decode cc pc = .ok (.iload 7, 2)) (hp : pc + 2 = pc1) (k : AWo X r0 pc1 (a0 :: a1 :: a2 :: a3 :: a4 :: a5 :: a6 :: some (.int x) :: t) (.int x :: st) σ oo) : AWo X r0 pc (a0 :: a1 :: a2 :: a3 :: a4 :: a5 :: a6 :: some (.int x) :: t) st σ oo := a_ilw (i := 7) hX d rfl hp k
theorem a_al7 {α : Type} {X : AX} {r0 : α} {cc : ByteArray} {mL : Nat} {own : String} {pc pc1 : Nat} {st : List Value} {σ : Mem} {oo : Option α} {a0 a1 a2 a3 a4 a5 a6 : Option Value} {t : List (Option Value)} {x : Nat} (hX : CX X cc mL own) (d : decode cc pc = .ok (.aload 7, 2)) (hp : pc + 2 = pc1) (k : AWo X r0 pc1 (a0 :: a1 :: a2 :: a3 :: a4 :: a5 :: a6 :: some (.ref x) :: t) (.ref x :: st) σ oo) : AWo X r0 pc (a0 :: a1 :: a2 :: a3 :: a4 :: a5 :: a6 :: some (.ref x) :: t) st σ oo := a_alw (i := 7) hX d rfl hp k
theorem a_is7 {α : Type} {X : AX} {r0 : α} {cc : ByteArray} {mL : Nat} {own : String} {pc pc1 : Nat} {st : List Value} {σ : Mem} {oo : Option α} {a0 a1 a2 a3 a4 a5 a6 : Option Value} {ai : Option Value} {t : List (Option Value)} {x : Int32} (hX : CX X cc mL own) (d : decode cc pc = .ok (.istore 7, 2)) (hp : pc + 2 = pc1) (k : AWo X r0 pc1 (a0 :: a1 :: a2 :: a3 :: a4 :: a5 :: a6 :: some (.int x) :: t) st σ oo) : AWo X r0 pc (a0 :: a1 :: a2 :: a3 :: a4 :: a5 :: a6 :: ai :: t) (.int x :: st) σ oo := a_isw (i := 7) hX d (by simp) hp k
theorem a_inc7 {α : Type} {X : AX} {r0 : α} {cc : ByteArray} {mL : Nat} {own : String} {pc pc1 : Nat} {st : List Value} {σ : Mem} {oo : Option α} {a0 a1 a2 a3 a4 a5 a6 : Option Value} {t : List (Option Value)} {x : Int32} {n : Int} (v : Int32) (hX : CX X cc mL own) (d : decode cc pc = .ok (.iinc 7 n, 3)) (hv : Int32.ofInt n = v) (hp : pc + 3 = pc1) (k : AWo X r0 pc1 (a0 :: a1 :: a2 :: a3 :: a4 :: a5 :: a6 :: some (.int (x + v)) :: t) st σ oo) : AWo X r0 pc (a0 :: a1 :: a2 :: a3 :: a4 :: a5 :: a6 :: some (.int x) :: t) st σ oo := a_incw (i := 7) hX d rfl (by simp) hv hp k
theorem a_il8 {α : Type} {X : AX} {r0 : α} {cc : ByteArray} {mL : Nat} {own : String} {pc pc1 : Nat} {st : List Value} {σ : Mem} {oo : Option α} {a0 a1 a2 a3 a4 a5 a6 a7 : Option Value} {t : List (Option Value)} {x : Int32} (hX : CX X cc mL own) (d : decode cc pc = .ok (.iload 8, 2)) (hp : pc + 2 = pc1) (k : AWo X r0 pc1 (a0 :: a1 :: a2 :: a3 :: a4 :: a5 :: a6 :: a7 :: some (.int x) :: t) (.int x :: st) σ oo) : AWo X r0 pc (a0 :: a1 :: a2 :: a3 :: a4 :: a5 :: a6 :: a7 :: some (.int x) :: t) st σ oo := a_ilw (i := 8) hX d rfl hp k
theorem a_al8 {α : Type} {X : AX} {r0 : α} {cc : ByteArray} {mL : Nat} {own : String} {pc pc1 : Nat} {st : List Value} {σ : Mem} {oo : Option α} {a0 a1 a2 a3 a4 a5 a6 a7 : Option Value} {t : List (Option Value)} {x : Nat} (hX : CX X cc mL own) (d : decode cc pc = .ok (.aload 8, 2)) (hp : pc + 2 = pc1) (k : AWo X r0 pc1 (a0 :: a1 :: a2 :: a3 :: a4 :: a5 :: a6 :: a7 :: some (.ref x) :: t) (.ref x :: st) σ oo) : AWo X r0 pc (a0 :: a1 :: a2 :: a3 :: a4 :: a5 :: a6 :: a7 :: some (.ref x) :: t) st σ oo := a_alw (i := 8) hX d rfl hp k
theorem a_is8 {α : Type} {X : AX} {r0 : α} {cc : ByteArray} {mL : Nat} {own : String} {pc pc1 : Nat} {st : List Value} {σ : Mem} {oo : Option α} {a0 a1 a2 a3 a4 a5 a6 a7 : Option Value} {ai : Option Value} {t : List (Option Value)} {x : Int32} (hX : CX X cc mL own) (d : decode cc pc = .ok (.istore 8, 2)) (hp : pc + 2 = pc1) (k : AWo X r0 pc1 (a0 :: a1 :: a2 :: a3 :: a4 :: a5 :: a6 :: a7 :: some (.int x) :: t) st σ oo) : AWo X r0 pc (a0 :: a1 :: a2 :: a3 :: a4 :: a5 :: a6 :: a7 :: ai :: t) (.int x :: st) σ oo := a_isw (i := 8) hX d (by simp) hp k
theorem a_inc8 {α : Type} {X : AX} {r0 : α} {cc : ByteArray} {mL : Nat} {own : String} {pc pc1 : Nat} {st : List Value} {σ : Mem} {oo : Option α} {a0 a1 a2 a3 a4 a5 a6 a7 : Option Value} {t : List (Option Value)} {x : Int32} {n : Int} (v : Int32) (hX : CX X cc mL own) (d : decode cc pc = .ok (.iinc 8 n, 3)) (hv : Int32.ofInt n = v) (hp : pc + 3 = pc1) (k : AWo X r0 pc1 (a0 :: a1 :: a2 :: a3 :: a4 :: a5 :: a6 :: a7 :: some (.int (x + v)) :: t) st σ oo) : AWo X r0 pc (a0 :: a1 :: a2 :: a3 :: a4 :: a5 :: a6 :: a7 :: some (.int x) :: t) st σ oo := a_incw (i := 8) hX d rfl (by simp) hv hp k
theorem a_il9 {α : Type} {X : AX} {r0 : α} {cc : ByteArray} {mL : Nat} {own : String} {pc pc1 : Nat} {st : List Value} {σ : Mem} {oo : Option α} {a0 a1 a2 a3 a4 a5 a6 a7 a8 : Option Value} {t : List (Option Value)} {x : Int32} (hX : CX X cc mL own) (d : decode cc pc = .ok (.iload 9, 2)) (hp : pc + 2 = pc1) (k : AWo X r0 pc1 (a0 :: a1 :: a2 :: a3 :: a4 :: a5 :: a6 :: a7 :: a8 :: some (.int x) :: t) (.int x :: st) σ oo) : AWo X r0 pc (a0 :: a1 :: a2 :: a3 :: a4 :: a5 :: a6 :: a7 :: a8 :: some (.int x) :: t) st σ oo := a_ilw (i := 9) hX d rfl hp k
theorem a_al9 {α : Type} {X : AX} {r0 : α} {cc : ByteArray} {mL : Nat} {own : String} {pc pc1 : Nat} {st : List Value} {σ : Mem} {oo : Option α} {a0 a1 a2 a3 a4 a5 a6 a7 a8 : Option Value} {t : List (Option Value)} {x : Nat} (hX : CX X cc mL own) (d : decode cc pc = .ok (.aload 9, 2)) (hp : pc + 2 = pc1) (k : AWo X r0 pc1 (a0 :: a1 :: a2 :: a3 :: a4 :: a5 :: a6 :: a7 :: a8 :: some (.ref x) :: t) (.ref x :: st) σ oo) : AWo X r0 pc (a0 :: a1 :: a2 :: a3 :: a4 :: a5 :: a6 :: a7 :: a8 :: some (.ref x) :: t) st σ oo := a_alw (i := 9) hX d rfl hp k
theorem a_is9 {α : Type} {X : AX} {r0 : α} {cc : ByteArray} {mL : Nat} {own : String} {pc pc1 : Nat} {st : List Value} {σ : Mem} {oo : Option α} {a0 a1 a2 a3 a4 a5 a6 a7 a8 : Option Value} {ai : Option Value} {t : List (Option Value)} {x : Int32} (hX : CX X cc mL own) (d : decode cc pc = .ok (.istore 9, 2)) (hp : pc + 2 = pc1) (k : AWo X r0 pc1 (a0 :: a1 :: a2 :: a3 :: a4 :: a5 :: a6 :: a7 :: a8 :: some (.int x) :: t) st σ oo) : AWo X r0 pc (a0 :: a1 :: a2 :: a3 :: a4 :: a5 :: a6 :: a7 :: a8 :: ai :: t) (.int x :: st) σ oo := a_isw (i := 9) hX d (by simp) hp k
theorem a_inc9 {α : Type} {X : AX} {r0 : α} {cc : ByteArray} {mL : Nat} {own : String} {pc pc1 : Nat} {st : List Value} {σ : Mem} {oo : Option α} {a0 a1 a2 a3 a4 a5 a6 a7 a8 : Option Value} {t : List (Option Value)} {x : Int32} {n : Int} (v : Int32) (hX : CX X cc mL own) (d : decode cc pc = .ok (.iinc 9 n, 3)) (hv : Int32.ofInt n = v) (hp : pc + 3 = pc1) (k : AWo X r0 pc1 (a0 :: a1 :: a2 :: a3 :: a4 :: a5 :: a6 :: a7 :: a8 :: some (.int (x + v)) :: t) st σ oo) : AWo X r0 pc (a0 :: a1 :: a2 :: a3 :: a4 :: a5 :: a6 :: a7 :: a8 :: some (.int x) :: t) st σ oo := a_incw (i := 9) hX d rfl (by simp) hv hp k
theorem a_il10 {α : Type} {X : AX} {r0 : α} {cc : ByteArray} {mL : Nat} {own : String} {pc pc1 : Nat} {st : List Value} {σ : Mem} {oo : Option α} {a0 a1 a2 a3 a4 a5 a6 a7 a8 a9 : Option Value} {t : List (Option Value)} {x : Int32} (hX : CX X cc mL own) (d : decode cc pc = .ok (.iload 10, 2)) (hp : pc + 2 = pc1) (k : AWo X r0 pc1 (a0 :: a1 :: a2 :: a3 :: a4 :: a5 :: a6 :: a7 :: a8 :: a9 :: some (.int x) :: t) (.int x :: st) σ oo) : AWo X r0 pc (a0 :: a1 :: a2 :: a3 :: a4 :: a5 :: a6 :: a7 :: a8 :: a9 :: some (.int x) :: t) st σ oo := a_ilw (i := 10) hX d rfl hp k
theorem a_al10 {α : Type} {X : AX} {r0 : α} {cc : ByteArray} {mL : Nat} {own : String} {pc pc1 : Nat} {st : List Value} {σ : Mem} {oo : Option α} {a0 a1 a2 a3 a4 a5 a6 a7 a8 a9 : Option Value} {t : List (Option Value)} {x : Nat} (hX : CX X cc mL own) (d : decode cc pc = .ok (.aload 10, 2)) (hp : pc + 2 = pc1) (k : AWo X r0 pc1 (a0 :: a1 :: a2 :: a3 :: a4 :: a5 :: a6 :: a7 :: a8 :: a9 :: some (.ref x) :: t) (.ref x :: st) σ oo) : AWo X r0 pc (a0 :: a1 :: a2 :: a3 :: a4 :: a5 :: a6 :: a7 :: a8 :: a9 :: some (.ref x) :: t) st σ oo := a_alw (i := 10) hX d rfl hp k
theorem a_is10 {α : Type} {X : AX} {r0 : α} {cc : ByteArray} {mL : Nat} {own : String} {pc pc1 : Nat} {st : List Value} {σ : Mem} {oo : Option α} {a0 a1 a2 a3 a4 a5 a6 a7 a8 a9 : Option Value} {ai : Option Value} {t : List (Option Value)} {x : Int32} (hX : CX X cc mL own) (d : decode cc pc = .ok (.istore 10, 2)) (hp : pc + 2 = pc1) (k : AWo X r0 pc1 (a0 :: a1 :: a2 :: a3 :: a4 :: a5 :: a6 :: a7 :: a8 :: a9 :: some (.int x) :: t) st σ oo) : AWo X r0 pc (a0 :: a1 :: a2 :: a3 :: a4 :: a5 :: a6 :: a7 :: a8 :: a9 :: ai :: t) (.int x :: st) σ oo := a_isw (i := 10) hX d (by simp) hp k
theorem a_inc10 {α : Type} {X : AX} {r0 : α} {cc : ByteArray} {mL : Nat} {own : String} {pc pc1 : Nat} {st : List Value} {σ : Mem} {oo : Option α} {a0 a1 a2 a3 a4 a5 a6 a7 a8 a9 : Option Value} {t : List (Option Value)} {x : Int32} {n : Int} (v : Int32) (hX : CX X cc mL own) (d : decode cc pc = .ok (.iinc 10 n, 3)) (hv : Int32.ofInt n = v) (hp : pc + 3 = pc1) (k : AWo X r0 pc1 (a0 :: a1 :: a2 :: a3 :: a4 :: a5 :: a6 :: a7 :: a8 :: a9 :: some (.int (x + v)) :: t) st σ oo) : AWo X r0 pc (a0 :: a1 :: a2 :: a3 :: a4 :: a5 :: a6 :: a7 :: a8 :: a9 :: some (.int x) :: t) st σ oo := a_incw (i := 10) hX d rfl (by simp) hv hp k
theorem a_il11 {α : Type} {X : AX} {r0 : α} {cc : ByteArray} {mL : Nat} {own : String} {pc pc1 : Nat} {st : List Value} {σ : Mem} {oo : Option α} {a0 a1 a2 a3 a4 a5 a6 a7 a8 a9 a10 : Option Value} {t : List (Option Value)} {x : Int32} (hX : CX X cc mL own) (d : decode cc pc = .ok (.iload 11, 2)) (hp : pc + 2 = pc1) (k : AWo X r0 pc1 (a0 :: a1 :: a2 :: a3 :: a4 :: a5 :: a6 :: a7 :: a8 :: a9 :: a10 :: some (.int x) :: t) (.int x :: st) σ oo) : AWo X r0 pc (a0 :: a1 :: a2 :: a3 :: a4 :: a5 :: a6 :: a7 :: a8 :: a9 :: a10 :: some (.int x) :: t) st σ oo := a_ilw (i := 11) hX d rfl hp k
theorem a_al11 {α : Type} {X : AX} {r0 : α} {cc : ByteArray} {mL : Nat} {own : String} {pc pc1 : Nat} {st : List Value} {σ : Mem} {oo : Option α} {a0 a1 a2 a3 a4 a5 a6 a7 a8 a9 a10 : Option Value} {t : List (Option Value)} {x : Nat} (hX : CX X cc mL own) (d : decode cc pc = .ok (.aload 11, 2)) (hp : pc + 2 = pc1) (k : AWo X r0 pc1 (a0 :: a1 :: a2 :: a3 :: a4 :: a5 :: a6 :: a7 :: a8 :: a9 :: a10 :: some (.ref x) :: t) (.ref x :: st) σ oo) : AWo X r0 pc (a0 :: a1 :: a2 :: a3 :: a4 :: a5 :: a6 :: a7 :: a8 :: a9 :: a10 :: some (.ref x) :: t) st σ oo := a_alw (i := 11) hX d rfl hp k
theorem a_is11 {α : Type} {X : AX} {r0 : α} {cc : ByteArray} {mL : Nat} {own : String} {pc pc1 : Nat} {st : List Value} {σ : Mem} {oo : Option α} {a0 a1 a2 a3 a4 a5 a6 a7 a8 a9 a10 : Option Value} {ai : Option Value} {t : List (Option Value)} {x : Int32} (hX : CX X cc mL own) (d : decode cc pc = .ok (.istore 11, 2)) (hp : pc + 2 = pc1) (k : AWo X r0 pc1 (a0 :: a1 :: a2 :: a3 :: a4 :: a5 :: a6 :: a7 :: a8 :: a9 :: a10 :: some (.int x) :: t) st σ oo) : AWo X r0 pc (a0 :: a1 :: a2 :: a3 :: a4 :: a5 :: a6 :: a7 :: a8 :: a9 :: a10 :: ai :: t) (.int x :: st) σ oo := a_isw (i := 11) hX d (by simp) hp k
theorem a_inc11 {α : Type} {X : AX} {r0 : α} {cc : ByteArray} {mL : Nat} {own : String} {pc pc1 : Nat} {st : List Value} {σ : Mem} {oo : Option α} {a0 a1 a2 a3 a4 a5 a6 a7 a8 a9 a10 : Option Value} {t : List (Option Value)} {x : Int32} {n : Int} (v : Int32) (hX : CX X cc mL own) (d : decode cc pc = .ok (.iinc 11 n, 3)) (hv : Int32.ofInt n = v) (hp : pc + 3 = pc1) (k : AWo X r0 pc1 (a0 :: a1 :: a2 :: a3 :: a4 :: a5 :: a6 :: a7 :: a8 :: a9 :: a10 :: some (.int (x + v)) :: t) st σ oo) : AWo X r0 pc (a0 :: a1 :: a2 :: a3 :: a4 :: a5 :: a6 :: a7 :: a8 :: a9 :: a10 :: some (.int x) :: t) st σ oo := a_incw (i := 11) hX d rfl (by simp) hv hp k
theorem a_il12 {α : Type} {X : AX} {r0 : α} {cc : ByteArray} {mL : Nat} {own : String} {pc pc1 : Nat} {st : List Value} {σ : Mem} {oo : Option α} {a0 a1 a2 a3 a4 a5 a6 a7 a8 a9 a10 a11 : Option Value} {t : List (Option Value)} {x : Int32} (hX : CX X cc mL own) (d : decode cc pc = .ok (.iload 12, 2)) (hp : pc + 2 = pc1) (k : AWo X r0 pc1 (a0 :: a1 :: a2 :: a3 :: a4 :: a5 :: a6 :: a7 :: a8 :: a9 :: a10 :: a11 :: some (.int x) :: t) (.int x :: st) σ oo) : AWo X r0 pc (a0 :: a1 :: a2 :: a3 :: a4 :: a5 :: a6 :: a7 :: a8 :: a9 :: a10 :: a11 :: some (.int x) :: t) st σ oo := a_ilw (i := 12) hX d rfl hp k
theorem a_al12 {α : Type} {X : AX} {r0 : α} {cc : ByteArray} {mL : Nat} {own : String} {pc pc1 : Nat} {st : List Value} {σ : Mem} {oo : Option α} {a0 a1 a2 a3 a4 a5 a6 a7 a8 a9 a10 a11 : Option Value} {t : List (Option Value)} {x : Nat} (hX : CX X cc mL own) (d : decode cc pc = .ok (.aload 12, 2)) (hp : pc + 2 = pc1) (k : AWo X r0 pc1 (a0 :: a1 :: a2 :: a3 :: a4 :: a5 :: a6 :: a7 :: a8 :: a9 :: a10 :: a11 :: some (.ref x) :: t) (.ref x :: st) σ oo) : AWo X r0 pc (a0 :: a1 :: a2 :: a3 :: a4 :: a5 :: a6 :: a7 :: a8 :: a9 :: a10 :: a11 :: some (.ref x) :: t) st σ oo := a_alw (i := 12) hX d rfl hp k
theorem a_is12 {α : Type} {X : AX} {r0 : α} {cc : ByteArray} {mL : Nat} {own : String} {pc pc1 : Nat} {st : List Value} {σ : Mem} {oo : Option α} {a0 a1 a2 a3 a4 a5 a6 a7 a8 a9 a10 a11 : Option Value} {ai : Option Value} {t : List (Option Value)} {x : Int32} (hX : CX X cc mL own) (d : decode cc pc = .ok (.istore 12, 2)) (hp : pc + 2 = pc1) (k : AWo X r0 pc1 (a0 :: a1 :: a2 :: a3 :: a4 :: a5 :: a6 :: a7 :: a8 :: a9 :: a10 :: a11 :: some (.int x) :: t) st σ oo) : AWo X r0 pc (a0 :: a1 :: a2 :: a3 :: a4 :: a5 :: a6 :: a7 :: a8 :: a9 :: a10 :: a11 :: ai :: t) (.int x :: st) σ oo := a_isw (i := 12) hX d (by simp) hp k
theorem a_inc12 {α : Type} {X : AX} {r0 : α} {cc : ByteArray} {mL : Nat} {own : String} {pc pc1 : Nat} {st : List Value} {σ : Mem} {oo : Option α} {a0 a1 a2 a3 a4 a5 a6 a7 a8 a9 a10 a11 : Option Value} {t : List (Option Value)} {x : Int32} {n : Int} (v : Int32) (hX : CX X cc mL own) (d : decode cc pc = .ok (.iinc 12 n, 3)) (hv : Int32.ofInt n = v) (hp : pc + 3 = pc1) (k : AWo X r0 pc1 (a0 :: a1 :: a2 :: a3 :: a4 :: a5 :: a6 :: a7 :: a8 :: a9 :: a10 :: a11 :: some (.int (x + v)) :: t) st σ oo) : AWo X r0 pc (a0 :: a1 :: a2 :: a3 :: a4 :: a5 :: a6 :: a7 :: a8 :: a9 :: a10 :: a11 :: some (.int x) :: t) st σ oo := a_incw (i := 12) hX d rfl (by simp) hv hp k
theorem a_il13 {α : Type} {X : AX} {r0 : α} {cc : ByteArray} {mL : Nat} {own : String} {pc pc1 : Nat} {st : List Value} {σ : Mem} {oo : Option α} {a0 a1 a2 a3 a4 a5 a6 a7 a8 a9 a10 a11 a12 : Option Value} {t : List (Option Value)} {x : Int32} (hX : CX X cc mL own) (d : decode cc pc = .ok (.iload 13, 2)) (hp : pc + 2 = pc1) (k : AWo X r0 pc1 (a0 :: a1 :: a2 :: a3 :: a4 :: a5 :: a6 :: a7 :: a8 :: a9 :: a10 :: a11 :: a12 :: some (.int x) :: t) (.int x :: st) σ oo) : AWo X r0 pc (a0 :: a1 :: a2 :: a3 :: a4 :: a5 :: a6 :: a7 :: a8 :: a9 :: a10 :: a11 :: a12 :: some (.int x) :: t) st σ oo := a_ilw (i := 13) hX d rfl hp k
theorem a_al13 {α : Type} {X : AX} {r0 : α} {cc : ByteArray} {mL : Nat} {own : String} {pc pc1 : Nat} {st : List Value} {σ : Mem} {oo : Option α} {a0 a1 a2 a3 a4 a5 a6 a7 a8 a9 a10 a11 a12 : Option Value} {t : List (Option Value)} {x : Nat} (hX : CX X cc mL own) (d : decode cc pc = .ok (.aload 13, 2)) (hp : pc + 2 = pc1) (k : AWo X r0 pc1 (a0 :: a1 :: a2 :: a3 :: a4 :: a5 :: a6 :: a7 :: a8 :: a9 :: a10 :: a11 :: a12 :: some (.ref x) :: t) (.ref x :: st) σ oo) : AWo X r0 pc (a0 :: a1 :: a2 :: a3 :: a4 :: a5 :: a6 :: a7 :: a8 :: a9 :: a10 :: a11 :: a12 :: some (.ref x) :: t) st σ oo := a_alw (i := 13) hX d rfl hp k
theorem a_is13 {α : Type} {X : AX} {r0 : α} {cc : ByteArray} {mL : Nat} {own : String} {pc pc1 : Nat} {st : List Value} {σ : Mem} {oo : Option α} {a0 a1 a2 a3 a4 a5 a6 a7 a8 a9 a10 a11 a12 : Option Value} {ai : Option Value} {t : List (Option Value)} {x : Int32} (hX : CX X cc mL own) (d : decode cc pc = .ok (.istore 13, 2)) (hp : pc + 2 = pc1) (k : AWo X r0 pc1 (a0 :: a1 :: a2 :: a3 :: a4 :: a5 :: a6 :: a7 :: a8 :: a9 :: a10 :: a11 :: a12 :: some (.int x) :: t) st σ oo) : AWo X r0 pc (a0 :: a1 :: a2 :: a3 :: a4 :: a5 :: a6 :: a7 :: a8 :: a9 :: a10 :: a11 :: a12 :: ai :: t) (.int x :: st) σ oo := a_isw (i := 13) hX d (by simp) hp k
theorem a_inc13 {α : Type} {X : AX} {r0 : α} {cc : ByteArray} {mL : Nat} {own : String} {pc pc1 : Nat} {st : List Value} {σ : Mem} {oo : Option α} {a0 a1 a2 a3 a4 a5 a6 a7 a8 a9 a10 a11 a12 : Option Value} {t : List (Option Value)} {x : Int32} {n : Int} (v : Int32) (hX : CX X cc mL own) (d : decode cc pc = .ok (.iinc 13 n, 3)) (hv : Int32.ofInt n = v) (hp : pc + 3 = pc1) (k : AWo X r0 pc1 (a0 :: a1 :: a2 :: a3 :: a4 :: a5 :: a6 :: a7 :: a8 :: a9 :: a10 :: a11 :: a12 :: some (.int (x + v)) :: t) st σ oo) : AWo X r0 pc (a0 :: a1 :: a2 :: a3 :: a4 :: a5 :: a6 :: a7 :: a8 :: a9 :: a10 :: a11 :: a12 :: some (.int x) :: t) st σ oo := a_incw (i := 13) hX d rfl (by simp) hv hp k
end
section
section ROWS2
variable {α : Type} {X : AX} {r0 : α} {cc : ByteArray} {mL : Nat} {own : String} {pc pc1 pc2 : Nat} {ls : List (Option Value)} {st : List Value} {σ : Mem} {oo oa ob : Option α}

theorem a_if_eq {x : Int32} {off : Int} (hX : CX X cc mL own) (d : decode cc pc = .ok (.ifCond .eq off, 3)) (ht : (pc : Int) + off = (pc1 : Int)) (hp : pc + 3 = pc2) (k1 : AWo X r0 pc1 ls st σ oa) (k2 : AWo X r0 pc2 ls st σ ob) : AWo X r0 pc ls (.int x :: st) σ (if x = 0 then oa else ob) := fun ho H locs lsA h1 h2 h3 h4 => by
  subst hp
  exact lv_if_eq hX.1 hX.2.1 d ht (fun c => k1 (by rw [if_pos c] at ho; exact ho) H locs lsA h1 h2 h3 h4) (fun c => k2 (by rw [if_neg c] at ho; exact ho) H locs lsA h1 h2 h3 h4)
theorem a_if_ne {x : Int32} {off : Int} (hX : CX X cc mL own) (d : decode cc pc = .ok (.ifCond .ne off, 3)) (ht : (pc : Int) + off = (pc1 : Int)) (hp : pc + 3 = pc2) (k1 : AWo X r0 pc1 ls st σ oa) (k2 : AWo X r0 pc2 ls st σ ob) : AWo X r0 pc ls (.int x :: st) σ (if x = 0 then ob else oa) := fun ho H locs lsA h1 h2 h3 h4 => by
  subst hp
  exact lv_if_ne hX.1 hX.2.1 d ht (fun c => k1 (by rw [if_neg c] at ho; exact ho) H locs lsA h1 h2 h3 h4) (fun c => k2 (by rw [if_pos c] at ho; exact ho) H locs lsA h1 h2 h3 h4)
theorem a_if_lt {x : Int32} {off : Int} (hX : CX X cc mL own) (d : decode cc pc = .ok (.ifCond .lt off, 3)) (ht : (pc : Int) + off = (pc1 : Int)) (hp : pc + 3 = pc2) (k1 : AWo X r0 pc1 ls st σ oa) (k2 : AWo X r0 pc2 ls st σ ob) : AWo X r0 pc ls (.int x :: st) σ (if x < 0 then oa else ob) := fun ho H locs lsA h1 h2 h3 h4 => by
  subst hp
  exact lv_if_lt hX.1 hX.2.1 d ht (fun c => k1 (by rw [if_pos c] at ho; exact ho) H locs lsA h1 h2 h3 h4) (fun c => k2 (by rw [if_neg c] at ho; exact ho) H locs lsA h1 h2 h3 h4)
theorem a_if_ge {x : Int32} {off : Int} (hX : CX X cc mL own) (d : decode cc pc = .ok (.ifCond .ge off, 3)) (ht : (pc : Int) + off = (pc1 : Int)) (hp : pc + 3 = pc2) (k1 : AWo X r0 pc1 ls st σ oa) (k2 : AWo X r0 pc2 ls st σ ob) : AWo X r0 pc ls (.int x :: st) σ (if 0 ≤ x then oa else ob) := fun ho H locs lsA h1 h2 h3 h4 => by
  subst hp
  exact lv_if_ge hX.1 hX.2.1 d ht (fun c => k1 (by rw [if_pos c] at ho; exact ho) H locs lsA h1 h2 h3 h4) (fun c => k2 (by rw [if_neg c] at ho; exact ho) H locs lsA h1 h2 h3 h4)
theorem a_if_gt {x : Int32} {off : Int} (hX : CX X cc mL own) (d : decode cc pc = .ok (.ifCond .gt off, 3)) (ht : (pc : Int) + off = (pc1 : Int)) (hp : pc + 3 = pc2) (k1 : AWo X r0 pc1 ls st σ oa) (k2 : AWo X r0 pc2 ls st σ ob) : AWo X r0 pc ls (.int x :: st) σ (if 0 < x then oa else ob) := fun ho H locs lsA h1 h2 h3 h4 => by
  subst hp
  exact lv_if_gt hX.1 hX.2.1 d ht (fun c => k1 (by rw [if_pos c] at ho; exact ho) H locs lsA h1 h2 h3 h4) (fun c => k2 (by rw [if_neg c] at ho; exact ho) H locs lsA h1 h2 h3 h4)
theorem a_if_le {x : Int32} {off : Int} (hX : CX X cc mL own) (d : decode cc pc = .ok (.ifCond .le off, 3)) (ht : (pc : Int) + off = (pc1 : Int)) (hp : pc + 3 = pc2) (k1 : AWo X r0 pc1 ls st σ oa) (k2 : AWo X r0 pc2 ls st σ ob) : AWo X r0 pc ls (.int x :: st) σ (if x ≤ 0 then oa else ob) := fun ho H locs lsA h1 h2 h3 h4 => by
  subst hp
  exact lv_if_le hX.1 hX.2.1 d ht (fun c => k1 (by rw [if_pos c] at ho; exact ho) H locs lsA h1 h2 h3 h4) (fun c => k2 (by rw [if_neg c] at ho; exact ho) H locs lsA h1 h2 h3 h4)
theorem a_icmp_eq {x y : Int32} {off : Int} (hX : CX X cc mL own) (d : decode cc pc = .ok (.if_icmp .eq off, 3)) (ht : (pc : Int) + off = (pc1 : Int)) (hp : pc + 3 = pc2) (k1 : AWo X r0 pc1 ls st σ oa) (k2 : AWo X r0 pc2 ls st σ ob) : AWo X r0 pc ls (.int y :: .int x :: st) σ (if x = y then oa else ob) := fun ho H locs lsA h1 h2 h3 h4 => by
  subst hp
  exact lv_icmp_eq hX.1 hX.2.1 d ht (fun c => k1 (by rw [if_pos c] at ho; exact ho) H locs lsA h1 h2 h3 h4) (fun c => k2 (by rw [if_neg c] at ho; exact ho) H locs lsA h1 h2 h3 h4)
theorem a_icmp_ne {x y : Int32} {off : Int} (hX : CX X cc mL own) (d : decode cc pc = .ok (.if_icmp .ne off, 3)) (ht : (pc : Int) + off = (pc1 : Int)) (hp : pc + 3 = pc2) (k1 : AWo X r0 pc1 ls st σ oa) (k2 : AWo X r0 pc2 ls st σ ob) : AWo X r0 pc ls (.int y :: .int x :: st) σ (if x = y then ob else oa) := fun ho H locs lsA h1 h2 h3 h4 => by
  subst hp
  exact lv_icmp_ne hX.1 hX.2.1 d ht (fun c => k1 (by rw [if_neg c] at ho; exact ho) H locs lsA h1 h2 h3 h4) (fun c => k2 (by rw [if_pos c] at ho; exact ho) H locs lsA h1 h2 h3 h4)
theorem a_icmp_lt {x y : Int32} {off : Int} (hX : CX X cc mL own) (d : decode cc pc = .ok (.if_icmp .lt off, 3)) (ht : (pc : Int) + off = (pc1 : Int)) (hp : pc + 3 = pc2) (k1 : AWo X r0 pc1 ls st σ oa) (k2 : AWo X r0 pc2 ls st σ ob) : AWo X r0 pc ls (.int y :: .int x :: st) σ (if x < y then oa else ob) := fun ho H locs lsA h1 h2 h3 h4 => by
  subst hp
  exact lv_icmp_lt hX.1 hX.2.1 d ht (fun c => k1 (by rw [if_pos c] at ho; exact ho) H locs lsA h1 h2 h3 h4) (fun c => k2 (by rw [if_neg c] at ho; exact ho) H locs lsA h1 h2 h3 h4)
theorem a_icmp_ge {x y : Int32} {off : Int} (hX : CX X cc mL own) (d : decode cc pc = .ok (.if_icmp .ge off, 3)) (ht : (pc : Int) + off = (pc1 : Int)) (hp : pc + 3 = pc2) (k1 : AWo X r0 pc1 ls st σ oa) (k2 : AWo X r0 pc2 ls st σ ob) : AWo X r0 pc ls (.int y :: .int x :: st) σ (if y ≤ x then oa else ob) := fun ho H locs lsA h1 h2 h3 h4 => by
  subst hp
  exact lv_icmp_ge hX.1 hX.2.1 d ht (fun c => k1 (by rw [if_pos c] at ho; exact ho) H locs lsA h1 h2 h3 h4) (fun c => k2 (by rw [if_neg c] at ho; exact ho) H locs lsA h1 h2 h3 h4)
theorem a_icmp_gt {x y : Int32} {off : Int} (hX : CX X cc mL own) (d : decode cc pc = .ok (.if_icmp .gt off, 3)) (ht : (pc : Int) + off = (pc1 : Int)) (hp : pc + 3 = pc2) (k1 : AWo X r0 pc1 ls st σ oa) (k2 : AWo X r0 pc2 ls st σ ob) : AWo X r0 pc ls (.int y :: .int x :: st) σ (if y < x then oa else ob) := fun ho H locs lsA h1 h2 h3 h4 => by
  subst hp
  exact lv_icmp_gt hX.1 hX.2.1 d ht (fun c => k1 (by rw [if_pos c] at ho; exact ho) H locs lsA h1 h2 h3 h4) (fun c => k2 (by rw [if_neg c] at ho; exact ho) H locs lsA h1 h2 h3 h4)
theorem a_icmp_le {x y : Int32} {off : Int} (hX : CX X cc mL own) (d : decode cc pc = .ok (.if_icmp .le off, 3)) (ht : (pc : Int) + off = (pc1 : Int)) (hp : pc + 3 = pc2) (k1 : AWo X r0 pc1 ls st σ oa) (k2 : AWo X r0 pc2 ls st σ ob) : AWo X r0 pc ls (.int y :: .int x :: st) σ (if x ≤ y then oa else ob) := fun ho H locs lsA h1 h2 h3 h4 => by
  subst hp
  exact lv_icmp_le hX.1 hX.2.1 d ht (fun c => k1 (by rw [if_pos c] at ho; exact ho) H locs lsA h1 h2 h3 h4) (fun c => k2 (by rw [if_neg c] at ho; exact ho) H locs lsA h1 h2 h3 h4)
theorem a_tsw8 {x : Int32} {dflt f0 f1 f2 f3 f4 f5 f6 f7 : Int} {p0 p1 p2 p3 p4 p5 p6 p7 pd len : Nat} {o0 o1 o2 o3 o4 o5 o6 o7 od : Option α} (hX : CX X cc mL own) (d : decode cc pc = .ok (.tableswitch dflt 0 7 #[f0, f1, f2, f3, f4, f5, f6, f7], len)) (h0 : (pc : Int) + f0 = (p0 : Int)) (k0 : AWo X r0 p0 ls st σ o0) (h1 : (pc : Int) + f1 = (p1 : Int)) (k1 : AWo X r0 p1 ls st σ o1) (h2 : (pc : Int) + f2 = (p2 : Int)) (k2 : AWo X r0 p2 ls st σ o2) (h3 : (pc : Int) + f3 = (p3 : Int)) (k3 : AWo X r0 p3 ls st σ o3) (h4 : (pc : Int) + f4 = (p4 : Int)) (k4 : AWo X r0 p4 ls st σ o4) (h5 : (pc : Int) + f5 = (p5 : Int)) (k5 : AWo X r0 p5 ls st σ o5) (h6 : (pc : Int) + f6 = (p6 : Int)) (k6 : AWo X r0 p6 ls st σ o6) (h7 : (pc : Int) + f7 = (p7 : Int)) (k7 : AWo X r0 p7 ls st σ o7) (hd : (pc : Int) + dflt = (pd : Int)) (kd : AWo X r0 pd ls st σ od) : AWo X r0 pc ls (.int x :: st) σ (if x = 0 then o0 else if x = 1 then o1 else if x = 2 then o2 else if x = 3 then o3 else if x = 4 then o4 else if x = 5 then o5 else if x = 6 then o6 else if x = 7 then o7 else od) := fun ho H locs lsA q1 q2 q3 q4 => by
  by_cases e0 : x = 0
  · rw [if_pos e0] at ho
    subst e0
    exact lv_tableIn hX.1 hX.2.1 d (by decide) (by decide) (off := f0) rfl h0 (k0 ho H locs lsA q1 q2 q3 q4)
  rw [if_neg e0] at ho
  by_cases e1 : x = 1
  · rw [if_pos e1] at ho
    subst e1
    exact lv_tableIn hX.1 hX.2.1 d (by decide) (by decide) (off := f1) rfl h1 (k1 ho H locs lsA q1 q2 q3 q4)
  rw [if_neg e1] at ho
  by_cases e2 : x = 2
  · rw [if_pos e2] at ho
    subst e2
    exact lv_tableIn hX.1 hX.2.1 d (by decide) (by decide) (off := f2) rfl h2 (k2 ho H locs lsA q1 q2 q3 q4)
  rw [if_neg e2] at ho
  by_cases e3 : x = 3
  · rw [if_pos e3] at ho
    subst e3
    exact lv_tableIn hX.1 hX.2.1 d (by decide) (by decide) (off := f3) rfl h3 (k3 ho H locs lsA q1 q2 q3 q4)
  rw [if_neg e3] at ho
  by_cases e4 : x = 4
  · rw [if_pos e4] at ho
    subst e4
    exact lv_tableIn hX.1 hX.2.1 d (by decide) (by decide) (off := f4) rfl h4 (k4 ho H locs lsA q1 q2 q3 q4)
  rw [if_neg e4] at ho
  by_cases e5 : x = 5
  · rw [if_pos e5] at ho
    subst e5
    exact lv_tableIn hX.1 hX.2.1 d (by decide) (by decide) (off := f5) rfl h5 (k5 ho H locs lsA q1 q2 q3 q4)
  rw [if_neg e5] at ho
  by_cases e6 : x = 6
  · rw [if_pos e6] at ho
    subst e6
    exact lv_tableIn hX.1 hX.2.1 d (by decide) (by decide) (off := f6) rfl h6 (k6 ho H locs lsA q1 q2 q3 q4)
  rw [if_neg e6] at ho
  by_cases e7 : x = 7
  · rw [if_pos e7] at ho
    subst e7
    exact lv_tableIn hX.1 hX.2.1 d (by decide) (by decide) (off := f7) rfl h7 (k7 ho H locs lsA q1 q2 q3 q4)
  rw [if_neg e7] at ho
  refine lv_tableOut hX.1 hX.2.1 d ?_ hd (kd ho H locs lsA q1 q2 q3 q4)
  have tt : ∀ k : Int32, x ≠ k → x.toInt ≠ k.toInt := fun k h e => h (Int32.toInt_inj.mp e)
  have t0 : x.toInt ≠ 0 := tt 0 e0
  have t1 : x.toInt ≠ 1 := tt 1 e1
  have t2 : x.toInt ≠ 2 := tt 2 e2
  have t3 : x.toInt ≠ 3 := tt 3 e3
  have t4 : x.toInt ≠ 4 := tt 4 e4
  have t5 : x.toInt ≠ 5 := tt 5 e5
  have t6 : x.toInt ≠ 6 := tt 6 e6
  have t7 : x.toInt ≠ 7 := tt 7 e7
  omega
/-- a field's facts: the class's number ci, the field's place k in it -/
def FLD (own : String) (idx ci k : Nat) : Prop := ∃ (C : String) (T : u_T) (N : Nat), vwCl[ci]? = some (C, T, N) ∧ k < N ∧ (∀ w ∈ u_ws C T N, w ∈ BIG) ∧ Cond.fieldLink own idx (T k).1 (T k).2.1 (T k).2.2.1 ∈ BIG
def FLP (own : String) (idx ci k : Nat) (ty : FieldType) : Prop := ∃ (C : String) (T : u_T) (N : Nat) (ty0 : Nat → FieldType), vwCl[ci]? = some (C, T, N) ∧ k < N ∧ (∀ w ∈ u_ws C T N, w ∈ BIG) ∧ Cond.fieldLink own idx (T k).1 (T k).2.1 (T k).2.2.1 ∈ BIG ∧ (∀ k, k < N → parseFieldDescriptor (T k).2.2.1 = some (ty0 k)) ∧ (∀ a, a < N → ∀ b, b < N → a ≠ b → (T a).2.1 ≠ (T b).2.1) ∧ (T k).2.2.2 = false ∧ parseFieldDescriptor (T k).2.2.1 = some ty
theorem a_getI {idx ci k p : Nat} {fs : List (Option Nat)} (hX : CX X cc mL own) (f : FLD own idx ci k) (hs : shp[p]? = some (.inl (ci, fs))) (hf : fs[k]? = some none) (d : decode cc pc = .ok (.getfield idx, 3)) (hp : pc + 3 = pc1) (kk : AWo X r0 pc1 ls (.int (σ p k) :: st) σ oo) : AWo X r0 pc ls (.ref p :: st) σ oo := fun ho H locs lsA h1 h2 h3 h4 => by
  subst hp
  obtain ⟨C, T, N, f1, f2, f3, f4⟩ := f
  exact va_get (v := .int (σ p k)) hX.1 hX.2.1 (hX.2.2.2.2.1) f3 hX.2.2.2.1 hX.2.2.2.2.2.1 h2 p (wd_get hs) f1 k f2 (hX.2.2.2.2.1 _ f4) (fun _ h => h) (by rw [sF_get, hf]; simp) d (kk ho H locs lsA h1 h2 h3 h4)
theorem a_getR {idx ci k p q : Nat} {fs : List (Option Nat)} (hX : CX X cc mL own) (f : FLD own idx ci k) (hs : shp[p]? = some (.inl (ci, fs))) (hf : fs[k]? = some (some q)) (d : decode cc pc = .ok (.getfield idx, 3)) (hp : pc + 3 = pc1) (kk : AWo X r0 pc1 ls (.ref q :: st) σ oo) : AWo X r0 pc ls (.ref p :: st) σ oo := fun ho H locs lsA h1 h2 h3 h4 => by
  subst hp
  obtain ⟨C, T, N, f1, f2, f3, f4⟩ := f
  exact va_get (v := .ref (gr (aG X) q)) hX.1 hX.2.1 (hX.2.2.2.2.1) f3 hX.2.2.2.1 hX.2.2.2.2.2.1 h2 p (wd_get hs) f1 k f2 (hX.2.2.2.2.1 _ f4) (fun _ h => h) (by rw [sF_get, hf]; rfl) d (kk ho H locs lsA h1 h2 h3 h4)
theorem a_getA {idx p : Nat} {K : Nat → Option α} (hX : CX X cc mL own) (f : FLD own idx 7 0) (d : decode cc pc = .ok (.getfield idx, 3)) (hp : pc + 3 = pc1) (kk : ∀ q, AWo X r0 pc1 ls (.ref q :: st) σ (K q)) : AWo X r0 pc ls (.ref p :: st) σ (obind (rowA p) K) := fun ho => by
  obtain ⟨q, hq, ho'⟩ := obind_inv ho
  exact a_getR (k := 0) hX f (rowA_some hq) rfl d hp (kk q) ho'
theorem a_putI {idx ci k p : Nat} {fs : List (Option Nat)} {v : Int32} (hX : CX X cc mL own) (f : FLP own idx ci k .int) (hs : shp[p]? = some (.inl (ci, fs))) (hf : fs[k]? = some none) (d : decode cc pc = .ok (.putfield idx, 3)) (hp : pc + 3 = pc1) (kk : AWo X r0 pc1 ls st (up σ p k v) oo) : AWo X r0 pc ls (.int v :: .ref p :: st) σ oo := fun ho H locs lsA h1 h2 h3 h4 => by
  subst hp
  obtain ⟨C, T, N, ty0, f1, f2, f3, f4, f5, f6, f7, f8⟩ := f
  refine va_put (v := .int v) (ty := .int) hX.1 hX.2.1 (hX.2.2.2.2.1) f3 ty0 f5 f6 hX.2.2.2.1 hX.2.2.2.2.2.1 h2 h3 h4 p (wd_get hs) f1 k f2 (hX.2.2.2.2.1 _ f4) (fun _ h => h) f7 f8 rfl rfl (by rw [sF_len]; exact (List.getElem?_eq_some_iff.mp hf).1) d (fun H1 locs1 g2 g3 g4 => ?_)
  have e : (wd (aG X) σ).set p (gr (aG X) p, .inr (ci, (sF (gr (aG X)) (σ p) 0 fs).set k (.int v))) = wd (aG X) (up σ p k v) := by
    rw [sF_set v hf]
    have := wd_set (g := aG X) (σ := σ) (upd (σ p) k v) hs
    rw [show sE (aG X) (setA σ p (upd (σ p) k v)) p (.inl (ci, fs)) = .inr (ci, sF (gr (aG X)) (upd (σ p) k v) 0 fs) from by simp [sE, setA]] at this
    exact this
  exact kk ho H1 locs1 lsA h1 (e ▸ g2) (e ▸ g3) g4
theorem a_putZ {idx ci k p : Nat} {fs : List (Option Nat)} {v : Int32} (hX : CX X cc mL own) (f : FLP own idx ci k .boolean) (hz : v = 0 ∨ v = 1) (hs : shp[p]? = some (.inl (ci, fs))) (hf : fs[k]? = some none) (d : decode cc pc = .ok (.putfield idx, 3)) (hp : pc + 3 = pc1) (kk : AWo X r0 pc1 ls st (up σ p k v) oo) : AWo X r0 pc ls (.int v :: .ref p :: st) σ oo := fun ho H locs lsA h1 h2 h3 h4 => by
  subst hp
  obtain ⟨C, T, N, ty0, f1, f2, f3, f4, f5, f6, f7, f8⟩ := f
  refine va_put (v := .int v) (ty := .boolean) hX.1 hX.2.1 (hX.2.2.2.2.1) f3 ty0 f5 f6 hX.2.2.2.1 hX.2.2.2.2.2.1 h2 h3 h4 p (wd_get hs) f1 k f2 (hX.2.2.2.2.1 _ f4) (fun _ h => h) f7 f8 (by rcases hz with rfl | rfl <;> rfl) (by rcases hz with rfl | rfl <;> rfl) (by rw [sF_len]; exact (List.getElem?_eq_some_iff.mp hf).1) d (fun H1 locs1 g2 g3 g4 => ?_)
  have e : (wd (aG X) σ).set p (gr (aG X) p, .inr (ci, (sF (gr (aG X)) (σ p) 0 fs).set k (.int v))) = wd (aG X) (up σ p k v) := by
    rw [sF_set v hf]
    have := wd_set (g := aG X) (σ := σ) (upd (σ p) k v) hs
    rw [show sE (aG X) (setA σ p (upd (σ p) k v)) p (.inl (ci, fs)) = .inr (ci, sF (gr (aG X)) (upd (σ p) k v) 0 fs) from by simp [sE, setA]] at this
    exact this
  exact kk ho H1 locs1 lsA h1 (e ▸ g2) (e ▸ g3) g4
theorem a_ald {p n : Nat} {i : Int32} {K : Int32 → Option α} (hX : CX X cc mL own) (hs : shp[p]? = some (.inr (0, n))) (d : decode cc pc = .ok (.iaload, 1)) (hp : pc + 1 = pc1) (kk : ∀ x, AWo X r0 pc1 ls (.int x :: st) σ (K x)) : AWo X r0 pc ls (.int i :: .ref p :: st) σ (obind (ald σ p n i) K) := fun ho H locs lsA h1 h2 h3 h4 => by
  subst hp
  obtain ⟨x, hx, ho'⟩ := obind_inv ho
  obtain ⟨hi, rfl⟩ := ald_some hx
  exact va_iald hX.1 hX.2.1 hX.2.2.2.2.2.1 h2 p 0 (wd_get hs) rfl hi d (kk _ ho' H locs lsA h1 h2 h3 h4)
theorem a_zld {p n : Nat} {i : Int32} {K : Int32 → Option α} (hX : CX X cc mL own) (hs : shp[p]? = some (.inr (1, n))) (d : decode cc pc = .ok (.baload, 1)) (hp : pc + 1 = pc1) (kk : ∀ x, AWo X r0 pc1 ls (.int x :: st) σ (K x)) : AWo X r0 pc ls (.int i :: .ref p :: st) σ (obind (ald σ p n i) K) := fun ho H locs lsA h1 h2 h3 h4 => by
  subst hp
  obtain ⟨x, hx, ho'⟩ := obind_inv ho
  obtain ⟨hi, rfl⟩ := ald_some hx
  exact va_zald hX.1 hX.2.1 hX.2.2.2.2.2.1 h2 p 1 (wd_get hs) rfl hi d (kk _ ho' H locs lsA h1 h2 h3 h4)
theorem a_aldS {p : Nat} {i : Int32} {K : Int32 → Option α} (hX : CX X cc mL own) (d : decode cc pc = .ok (.iaload, 1)) (hp : pc + 1 = pc1) (kk : ∀ x, AWo X r0 pc1 ls (.int x :: st) σ (K x)) : AWo X r0 pc ls (.int i :: .ref p :: st) σ (obind (arl p) fun n => obind (ald σ p n i) K) := fun ho => by
  obtain ⟨n, hn, ho'⟩ := obind_inv ho
  exact a_ald hX (arl_some hn) d hp kk ho'
theorem a_alen {p t n : Nat} (v : Int32) (hX : CX X cc mL own) (hs : shp[p]? = some (.inr (t, n))) (ht : t = 0 ∨ t = 1) (hv : Int32.ofNat n = v) (d : decode cc pc = .ok (.arraylength, 1)) (hp : pc + 1 = pc1) (kk : AWo X r0 pc1 ls (.int v :: st) σ oo) : AWo X r0 pc ls (.ref p :: st) σ oo := fun ho H locs lsA h1 h2 h3 h4 => by
  subst hp
  rcases ht with rfl | rfl
  · exact va_alen hX.1 hX.2.1 hX.2.2.2.2.2.1 h2 p 0 (wd_get hs) rfl hv d (kk ho H locs lsA h1 h2 h3 h4)
  · exact va_alen hX.1 hX.2.1 hX.2.2.2.2.2.1 h2 p 1 (wd_get hs) rfl hv d (kk ho H locs lsA h1 h2 h3 h4)
theorem a_alenS {p : Nat} {K : Nat → Option α} (hX : CX X cc mL own) (d : decode cc pc = .ok (.arraylength, 1)) (hp : pc + 1 = pc1) (kk : ∀ n, AWo X r0 pc1 ls (.int (Int32.ofNat n) :: st) σ (K n)) : AWo X r0 pc ls (.ref p :: st) σ (obind (arl p) K) := fun ho => by
  obtain ⟨n, hn, ho'⟩ := obind_inv ho
  exact a_alen (t := 0) _ hX (arl_some hn) (Or.inl rfl) rfl d hp (kk n) ho'
theorem wd_setA {g : GX} {p n : Nat} {f : Nat → Int32} (hs : shp[p]? = some (.inr (0, n))) : (wd g σ).set p (gr g p, .inl (g.2.1, n, .inl f)) = wd g (setA σ p f) := by
  have := wd_set (g := g) (σ := σ) f hs
  rw [show sE g (setA σ p f) p (.inr (0, n)) = .inl (g.2.1, n, .inl f) from by simp [sE, setA]] at this
  exact this
theorem wd_setZ {g : GX} {p n : Nat} {f : Nat → Int32} (hs : shp[p]? = some (.inr (1, n))) : (wd g σ).set p (gr g p, .inl (g.2.2.1, n, .inl f)) = wd g (setA σ p f) := by
  have := wd_set (g := g) (σ := σ) f hs
  rw [show sE g (setA σ p f) p (.inr (1, n)) = .inl (g.2.2.1, n, .inl f) from by simp [sE, setA]] at this
  exact this
theorem a_ast {p n : Nat} {i x : Int32} {K : Mem → Option α} (hX : CX X cc mL own) (hs : shp[p]? = some (.inr (0, n))) (d : decode cc pc = .ok (.iastore, 1)) (hp : pc + 1 = pc1) (kk : ∀ σ', AWo X r0 pc1 ls st σ' (K σ')) : AWo X r0 pc ls (.int x :: .int i :: .ref p :: st) σ (obind (ast σ p n i x) K) := fun ho H locs lsA h1 h2 h3 h4 => by
  subst hp
  obtain ⟨σ', hx, ho'⟩ := obind_inv ho
  obtain ⟨hi, rfl⟩ := ast_some hx
  refine va_iast hX.1 hX.2.1 hX.2.2.2.2.2.1 h2 h3 h4 p 0 (wd_get hs) rfl hi d (fun H1 locs1 g2 g3 g4 => ?_)
  have e := wd_setA (g := aG X) (σ := σ) (f := upd (σ p) i.toNatClampNeg x) hs
  exact kk _ ho' H1 locs1 lsA h1 (e ▸ g2) (e ▸ g3) g4
theorem a_zst {p n : Nat} {i x : Int32} {K : Mem → Option α} (hX : CX X cc mL own) (hs : shp[p]? = some (.inr (1, n))) (d : decode cc pc = .ok (.bastore, 1)) (hp : pc + 1 = pc1) (kk : ∀ σ', AWo X r0 pc1 ls st σ' (K σ')) : AWo X r0 pc ls (.int x :: .int i :: .ref p :: st) σ (obind (zchk x) fun z => obind (ast σ p n i z) K) := fun ho H locs lsA h1 h2 h3 h4 => by
  subst hp
  obtain ⟨z, hz, ho1⟩ := obind_inv ho
  obtain ⟨rfl, hz01⟩ := zchk_some hz
  obtain ⟨σ', hx, ho'⟩ := obind_inv ho1
  obtain ⟨hi, rfl⟩ := ast_some hx
  refine va_zast hX.1 hX.2.1 hX.2.2.2.2.2.1 h2 h3 h4 p 1 (wd_get hs) rfl hi d (fun H1 locs1 g2 g3 g4 => ?_)
  have hn : vp_nar .boolean z = z := by rcases hz01 with rfl | rfl <;> rfl
  rw [hn] at g2 g3
  have e := wd_setZ (g := aG X) (σ := σ) (f := upd (σ p) i.toNatClampNeg z) hs
  exact kk _ ho' H1 locs1 lsA h1 (e ▸ g2) (e ▸ g3) g4
theorem a_astS {p : Nat} {i x : Int32} {K : Mem → Option α} (hX : CX X cc mL own) (d : decode cc pc = .ok (.iastore, 1)) (hp : pc + 1 = pc1) (kk : ∀ σ', AWo X r0 pc1 ls st σ' (K σ')) : AWo X r0 pc ls (.int x :: .int i :: .ref p :: st) σ (obind (arl p) fun n => obind (ast σ p n i x) K) := fun ho => by
  obtain ⟨n, hn, ho'⟩ := obind_inv ho
  exact a_ast hX (arl_some hn) d hp kk ho'
/-! calls -/
def MLV (own : String) (idx : Nat) (y : MethodName) (b : ByteArray) (mL : Nat) (ret : Option FieldType) (n : Nat) : Prop := Cond.methodLink own idx y ∈ BIG ∧ Cond.instanceMethod y ∈ BIG ∧ Cond.selects y.cls y y ∈ BIG ∧ Cond.initialized y.cls ∈ BIG ∧ Cond.code y b mL ret ∈ BIG ∧ (y.cls ≠ "java/lang/invoke/MethodHandle" ∧ y.cls ≠ "java/lang/invoke/VarHandle" ∧ (parseMethodDescriptor y.desc).map (fun d => d.parameters.length) = some n)
def MLS (own : String) (idx : Nat) (y : MethodName) (b : ByteArray) (mL : Nat) (ret : Option FieldType) (n : Nat) : Prop := Cond.methodLink own idx y ∈ BIG ∧ Cond.static y ∈ BIG ∧ Cond.initialized y.cls ∈ BIG ∧ Cond.code y b mL ret ∈ BIG ∧ (y.cls ≠ "java/lang/invoke/MethodHandle" ∧ y.cls ≠ "java/lang/invoke/VarHandle" ∧ (parseMethodDescriptor y.desc).map (fun d => d.parameters.length) = some n)
def MLN (own : String) (idx : Nat) (y : MethodName) (b : ByteArray) (mL : Nat) (ret : Option FieldType) (n : Nat) : Prop := (own, idx, y) ∈ nestL ∧ Cond.static y ∈ BIG ∧ Cond.initialized y.cls ∈ BIG ∧ Cond.code y b mL ret ∈ BIG ∧ (y.cls ≠ "java/lang/invoke/MethodHandle" ∧ y.cls ≠ "java/lang/invoke/VarHandle" ∧ (parseMethodDescriptor y.desc).map (fun d => d.parameters.length) = some n)
theorem recv_at {g : GX} {H : Heap} {s : State} {q ci : Nat} {fs : List (Option Nat)} {C : String} {T : u_T} {N : Nat} (hP : va_P (gD g) vwCl (wd g σ) H) (hK : va_K (gD g) vwCl (gT g) s) (hs : shp[q]? = some (.inl (ci, fs))) (hc : vwCl[ci]? = some (C, T, N)) : ∃ cellB : Cell, H[gr g q]? = some cellB ∧ cellB.vm.isStatics = false ∧ s.vm.findClass C = some cellB.cls := by
  obtain ⟨r, h1, cell, q1, q2, q3, q4⟩ := hP q _ (wd_get hs)
  have hr : r = (C, T, N) := Option.some.inj (h1.symm.trans hc)
  subst hr
  obtain ⟨hS, hfc, kC, hkC, hkind⟩ := hK.1 ci _ hc
  exact ⟨cell, q1, by rw [q3]; rfl, by rw [q2]; exact hfc⟩
theorem map_rev (f : Value → Value) (As : List Value) (q : Nat) (rest : List Value) : (As.reverse ++ .ref q :: rest).map f = (As.map f).reverse ++ f (.ref q) :: rest.map f := by simp
theorem cat_map {ρ : Nat → Nat} (l : List Value) : ((l.map (cv ρ)).map fun v => v.category) = l.map fun v => v.category := by
  rw [List.map_map]
  apply List.map_congr_left
  intro v _
  exact cv_cat v
theorem call_fin {g : GX} {σ' : Mem} {t : State} {s : State} {H1 : Heap} (e : t.heap = H1) (hb : HO g σ' t) : va_P (gD g) vwCl (wd g σ') H1 ∧ va_D (gA g) (wd g σ') := ⟨e ▸ hb.1, hb.2.2.1⟩
theorem a_callI {idx fr lo mLc n ci q frC loC : Nat} {y : MethodName} {b : ByteArray} {ret : Option FieldType} {As rest stk : List Value} {fs : List (Option Nat)} {T : u_T} {N : Nat} {ov : Option (Int32 × Mem)} {K : Int32 × Mem → Option α} (hX : CX X cc mL own) (hR : aR X = rmOf fr lo) (ml : MLV own idx y b mLc ret n) (hc : CI (aL X) y b mLc ret frC loC (.ref q :: As) σ ov) (hs : shp[q]? = some (.inl (ci, fs))) (hci : vwCl[ci]? = some (y.cls, T, N)) (hn : As.length = n) (hst : stk = As.reverse ++ .ref q :: rest) (hroom : frC + 1 ≤ fr ∧ 8 + (mLc + 11) + loC ≤ lo) (hw : (rest.map fun v => v.category).sum ≤ 8) (hl : ls.length = mL) (d : decode cc pc = .ok (.invokevirtual idx, 3)) (hp : pc + 3 = pc1) (kk : ∀ r : Int32 × Mem, AWo X r0 pc1 ls (.int r.1 :: rest) r.2 (K r)) : AWo X r0 pc ls stk σ (obind ov K) := fun ho H locs lsA h1 h2 h3 h4 => by
  subst hp; subst hst
  obtain ⟨r, hr, ho'⟩ := obind_inv ho
  have hts := hX.2.2.2.2.1
  have hM := hc (aG X) r hr
  rw [map_rev]
  have hcell := recv_at h2 hX.2.2.2.2.2.1 hs hci
  refine va_calli (va_runV (Ts := BIG) (As := As.map (cv (gr (aG X)))) (rest := rest.map (cv (gr (aG X)))) ⟨hX.1, hX.2.1, hX.2.2.1, hX.2.2.2.1, hts⟩ hM ⟨callB_of n hts (big_code ml.2.2.2.2.1) rfl rfl rfl (hts _ ml.2.2.2.1) (hts _ ml.1) ml.2.2.2.2.2 (by rw [hR]; exact hroom), hts _ ml.2.1, hts _ ml.2.2.1⟩ ⟨HO.blind, hcell, fun U hU hW => ⟨rfl, HO.warm hW (by rw [hU]; exact h2) hX.2.2.2.2.2.1 h3 hX.2.2.2.2.2.2.1⟩⟩ rfl (by rw [List.length_map]; exact hn) (by rw [h1.1]; exact hl) rfl (lv_room (by rw [cat_map]; exact hw)) d ⟨Nat.zero_le _, Nat.zero_le _⟩) h4 (fun q _ h => h) (fun q h => h) (fun v u t H1 locs1 e1 e2 hv hb hz hk hS => ?_)
  subst hv
  obtain ⟨p1, p2⟩ := call_fin (s := aS X) e1 hb
  exact kk r ho' H1 locs1 lsA h1 p1 p2 hS
theorem a_callV {idx fr lo mLc n ci q frC loC : Nat} {y : MethodName} {b : ByteArray} {As rest stk : List Value} {fs : List (Option Nat)} {T : u_T} {N : Nat} {ov : Option (Int32 × Mem)} {K : Int32 × Mem → Option α} (hX : CX X cc mL own) (hR : aR X = rmOf fr lo) (ml : MLV own idx y b mLc none n) (hc : CV (aL X) y b mLc frC loC (.ref q :: As) σ ov) (hs : shp[q]? = some (.inl (ci, fs))) (hci : vwCl[ci]? = some (y.cls, T, N)) (hn : As.length = n) (hst : stk = As.reverse ++ .ref q :: rest) (hroom : frC + 1 ≤ fr ∧ 8 + (mLc + 11) + loC ≤ lo) (hw : (rest.map fun v => v.category).sum ≤ 8) (hl : ls.length = mL) (d : decode cc pc = .ok (.invokevirtual idx, 3)) (hp : pc + 3 = pc1) (kk : ∀ r : Int32 × Mem, AWo X r0 pc1 ls rest r.2 (K r)) : AWo X r0 pc ls stk σ (obind ov K) := fun ho H locs lsA h1 h2 h3 h4 => by
  subst hp; subst hst
  obtain ⟨r, hr, ho'⟩ := obind_inv ho
  have hts := hX.2.2.2.2.1
  have hM := hc (aG X) r hr
  rw [map_rev]
  have hcell := recv_at h2 hX.2.2.2.2.2.1 hs hci
  refine va_callv (va_runV (Ts := BIG) (As := As.map (cv (gr (aG X)))) (rest := rest.map (cv (gr (aG X)))) ⟨hX.1, hX.2.1, hX.2.2.1, hX.2.2.2.1, hts⟩ hM ⟨callB_of n hts (big_code ml.2.2.2.2.1) rfl rfl rfl (hts _ ml.2.2.2.1) (hts _ ml.1) ml.2.2.2.2.2 (by rw [hR]; exact hroom), hts _ ml.2.1, hts _ ml.2.2.1⟩ ⟨HO.blind, hcell, fun U hU hW => ⟨rfl, HO.warm hW (by rw [hU]; exact h2) hX.2.2.2.2.2.1 h3 hX.2.2.2.2.2.2.1⟩⟩ rfl (by rw [List.length_map]; exact hn) (by rw [h1.1]; exact hl) rfl (lv_room (by rw [cat_map]; exact hw)) d ⟨Nat.zero_le _, Nat.zero_le _⟩) h4 (fun q _ h => h) (fun q h => h) (fun u t H1 locs1 e1 e2 hv hb hz hk hS => ?_)
  obtain ⟨p1, p2⟩ := call_fin (s := aS X) e1 hb
  exact kk r ho' H1 locs1 lsA h1 p1 p2 hS
theorem map_rev2 (f : Value → Value) (As : List Value) (rest : List Value) : (As.reverse ++ rest).map f = (As.map f).reverse ++ rest.map f := by simp
theorem a_callSI {idx fr lo mLc n frC loC : Nat} {y : MethodName} {b : ByteArray} {ret : Option FieldType} {As rest stk : List Value} {ov : Option (Int32 × Mem)} {K : Int32 × Mem → Option α} (hX : CX X cc mL own) (hR : aR X = rmOf fr lo) (ml : MLS own idx y b mLc ret n) (hc : CI (aL X) y b mLc ret frC loC As σ ov) (hn : As.length = n) (hst : stk = As.reverse ++ rest) (hroom : frC + 1 ≤ fr ∧ 8 + (mLc + 11) + loC ≤ lo) (hw : (rest.map fun v => v.category).sum ≤ 8) (hl : ls.length = mL) (d : decode cc pc = .ok (.invokestatic idx, 3)) (hp : pc + 3 = pc1) (kk : ∀ r : Int32 × Mem, AWo X r0 pc1 ls (.int r.1 :: rest) r.2 (K r)) : AWo X r0 pc ls stk σ (obind ov K) := fun ho H locs lsA h1 h2 h3 h4 => by
  subst hp; subst hst
  obtain ⟨r, hr, ho'⟩ := obind_inv ho
  have hts := hX.2.2.2.2.1
  have hM := hc (aG X) r hr
  rw [map_rev2]
  refine va_calli (va_runS (Ts := BIG) (As := As.map (cv (gr (aG X)))) (rest := rest.map (cv (gr (aG X)))) ⟨hX.1, hX.2.1, hX.2.2.1, hX.2.2.2.1, hts⟩ hM ⟨callB_of n hts (big_code ml.2.2.2.1) rfl rfl rfl (hts _ ml.2.2.1) (hts _ ml.1) ml.2.2.2.2 (by rw [hR]; exact hroom), hts _ ml.2.1⟩ ⟨HO.blind, fun U hU hW => ⟨rfl, HO.warm hW (by rw [hU]; exact h2) hX.2.2.2.2.2.1 h3 hX.2.2.2.2.2.2.1⟩⟩ rfl (by rw [List.length_map]; exact hn) (by rw [h1.1]; exact hl) rfl (lv_room (by rw [cat_map]; exact hw)) d ⟨Nat.zero_le _, Nat.zero_le _⟩) h4 (fun q _ h => h) (fun q h => h) (fun v u t H1 locs1 e1 e2 hv hb hz hk hS => ?_)
  subst hv
  obtain ⟨p1, p2⟩ := call_fin (s := aS X) e1 hb
  exact kk r ho' H1 locs1 lsA h1 p1 p2 hS
theorem a_callSV {idx fr lo mLc n frC loC : Nat} {y : MethodName} {b : ByteArray} {As rest stk : List Value} {ov : Option (Int32 × Mem)} {K : Int32 × Mem → Option α} (hX : CX X cc mL own) (hR : aR X = rmOf fr lo) (ml : MLS own idx y b mLc none n) (hc : CV (aL X) y b mLc frC loC As σ ov) (hn : As.length = n) (hst : stk = As.reverse ++ rest) (hroom : frC + 1 ≤ fr ∧ 8 + (mLc + 11) + loC ≤ lo) (hw : (rest.map fun v => v.category).sum ≤ 8) (hl : ls.length = mL) (d : decode cc pc = .ok (.invokestatic idx, 3)) (hp : pc + 3 = pc1) (kk : ∀ r : Int32 × Mem, AWo X r0 pc1 ls rest r.2 (K r)) : AWo X r0 pc ls stk σ (obind ov K) := fun ho H locs lsA h1 h2 h3 h4 => by
  subst hp; subst hst
  obtain ⟨r, hr, ho'⟩ := obind_inv ho
  have hts := hX.2.2.2.2.1
  have hM := hc (aG X) r hr
  rw [map_rev2]
  refine va_callv (va_runS (Ts := BIG) (As := As.map (cv (gr (aG X)))) (rest := rest.map (cv (gr (aG X)))) ⟨hX.1, hX.2.1, hX.2.2.1, hX.2.2.2.1, hts⟩ hM ⟨callB_of n hts (big_code ml.2.2.2.1) rfl rfl rfl (hts _ ml.2.2.1) (hts _ ml.1) ml.2.2.2.2 (by rw [hR]; exact hroom), hts _ ml.2.1⟩ ⟨HO.blind, fun U hU hW => ⟨rfl, HO.warm hW (by rw [hU]; exact h2) hX.2.2.2.2.2.1 h3 hX.2.2.2.2.2.2.1⟩⟩ rfl (by rw [List.length_map]; exact hn) (by rw [h1.1]; exact hl) rfl (lv_room (by rw [cat_map]; exact hw)) d ⟨Nat.zero_le _, Nat.zero_le _⟩) h4 (fun q _ h => h) (fun q h => h) (fun u t H1 locs1 e1 e2 hv hb hz hk hS => ?_)
  obtain ⟨p1, p2⟩ := call_fin (s := aS X) e1 hb
  exact kk r ho' H1 locs1 lsA h1 p1 p2 hS
theorem a_callNI {idx fr lo mLc n frC loC : Nat} {y : MethodName} {b : ByteArray} {ret : Option FieldType} {As rest stk : List Value} {ov : Option (Int32 × Mem)} {K : Int32 × Mem → Option α} (hX : CX X cc mL own) (hR : aR X = rmOf fr lo) (ml : MLN own idx y b mLc ret n) (hc : CI (aL X) y b mLc ret frC loC As σ ov) (hn : As.length = n) (hst : stk = As.reverse ++ rest) (hroom : frC + 1 ≤ fr ∧ 8 + (mLc + 11) + loC ≤ lo) (hw : (rest.map fun v => v.category).sum ≤ 8) (hl : ls.length = mL) (d : decode cc pc = .ok (.invokestatic idx, 3)) (hp : pc + 3 = pc1) (kk : ∀ r : Int32 × Mem, AWo X r0 pc1 ls (.int r.1 :: rest) r.2 (K r)) : AWo X r0 pc ls stk σ (obind ov K) := fun ho H locs lsA h1 h2 h3 h4 => by
  subst hp; subst hst
  obtain ⟨r, hr, ho'⟩ := obind_inv ho
  have hts := hX.2.2.2.2.1
  have hM := hc (aG X) r hr
  rw [map_rev2]
  refine va_calli (va_runSN (host := RX11) (Ts := BIG) (As := As.map (cv (gr (aG X)))) (rest := rest.map (cv (gr (aG X)))) ⟨hX.1, hX.2.1, hX.2.2.1, hX.2.2.2.1, hts⟩ hM ⟨va_cnB n hts (big_code ml.2.2.2.1) rfl rfl rfl (hX.2.2.2.2.2.2.1 _ ml.1) (hts _ ml.2.2.1) ml.2.2.2.2 (by rw [hR]; exact hroom), hts _ ml.2.1, trivial⟩ ⟨HO.blind, fun U hU hW => ⟨rfl, HO.warm hW (by rw [hU]; exact h2) hX.2.2.2.2.2.1 h3 hX.2.2.2.2.2.2.1⟩⟩ rfl (by rw [List.length_map]; exact hn) (by rw [h1.1]; exact hl) rfl (lv_room (by rw [cat_map]; exact hw)) d ⟨Nat.zero_le _, Nat.zero_le _⟩) h4 (fun q _ h => h) (fun q h => h) (fun v u t H1 locs1 e1 e2 hv hb hz hk hS => ?_)
  subst hv
  obtain ⟨p1, p2⟩ := call_fin (s := aS X) e1 hb
  exact kk r ho' H1 locs1 lsA h1 p1 p2 hS
end ROWS2
theorem a_name {α : Type} {X : AX} {r0 : α} {pc : Nat} {ls : List (Option Value)} {st : List Value} {σ : Mem} {x : Int32} {K : Int32 → Option α} (kk : ∀ y, AWo X r0 pc ls (.int y :: st) σ (K y)) : AWo X r0 pc ls (.int x :: st) σ (obind (some x) K) := kk x
theorem a_nameM {α : Type} {X : AX} {r0 : α} {pc : Nat} {ls : List (Option Value)} {st : List Value} {σ : Mem} {K : Mem → Option α} (kk : ∀ m, AWo X r0 pc ls st m (K m)) : AWo X r0 pc ls st σ (obind (some σ) K) := kk σ
theorem ls_0 : lsub [] [] := trivial
theorem ls_n {o : Option Value} {t t' : List (Option Value)} (h : lsub t t') : lsub (none :: t) (o :: t') := h
theorem ls_s {v : Value} {t t' : List (Option Value)} (h : lsub t t') : lsub (some v :: t) (some v :: t') := ⟨rfl, h⟩
def FU : Nat := 4000000
/-! ===== a method's end and start ===== -/
section ENDS
variable {X : AX} {r0 : Int32 × Mem} {cc : ByteArray} {mL : Nat} {own : String} {pc : Nat} {ls : List (Option Value)} {σ : Mem}
def QI (X : AX) (r0 : Int32 × Mem) : Prop := aQ X = MQ (aBelow X) (va_Qi (fun v (_ : Unit) => v = r0.1) (fun _ t => HO (aG X) r0.2 t) (gA (aG X))) (aArgs X) (aS X) 0 0 (gA (aG X))
def QV (X : AX) (r0 : Int32 × Mem) : Prop := aQ X = MQ (aBelow X) (va_Qv (fun (_ : Unit) => True) (fun _ t => HO (aG X) r0.2 t) (gA (aG X))) (aArgs X) (aS X) 0 0 (gA (aG X))
theorem a_iret {v : Int32} (hX : CX X cc mL own) (hQ : QI X r0) (hr : (aMeth X).sig.returnType = some .int) (d : decode cc pc = .ok (.ireturn, 1)) : AWo X r0 pc ls [.int v] σ (some (v, σ)) := fun ho H locs lsA h1 h2 h3 h4 => by
  cases ho
  rw [hQ]
  exact W.iret (v := v) hX.1 hX.2.1 hr (fun t ht hW => ⟨⟨v, (), rfl, rfl, HO.warm hW (by rw [ht]; exact h2) hX.2.2.2.2.2.1 h3 hX.2.2.2.2.2.2.1⟩, h4.F ht⟩) h4.2.2 d hX.2.2.2.2.2.2.2.1
theorem a_zret0 {v : Int32} (hz : v = 0 ∨ v = 1) (hX : CX X cc mL own) (hQ : QI X r0) (hr : (aMeth X).sig.returnType = some .boolean) (d : decode cc pc = .ok (.ireturn, 1)) : AWo X r0 pc ls [.int v] σ (some (v, σ)) := fun ho H locs lsA h1 h2 h3 h4 => by
  cases ho
  rw [hQ]
  exact W.zret (v := v) hX.1 hX.2.1 hr (by rcases hz with rfl | rfl <;> rfl) (fun t ht hW => ⟨⟨v, (), rfl, rfl, HO.warm hW (by rw [ht]; exact h2) hX.2.2.2.2.2.1 h3 hX.2.2.2.2.2.2.1⟩, h4.F ht⟩) h4.2.2 d hX.2.2.2.2.2.2.2.1
theorem a_zret {v : Int32} (hX : CX X cc mL own) (hQ : QI X r0) (hr : (aMeth X).sig.returnType = some .boolean) (d : decode cc pc = .ok (.ireturn, 1)) : AWo X r0 pc ls [.int v] σ (obind (zchk v) fun z => some (z, σ)) := fun ho => by
  obtain ⟨z, hz, ho1⟩ := obind_inv ho
  obtain ⟨rfl, hz01⟩ := zchk_some hz
  exact a_zret0 hz01 hX hQ hr d ho1
theorem a_vret (hX : CX X cc mL own) (hQ : QV X r0) (hr : (aMeth X).sig.returnType = none) (d : decode cc pc = .ok (.return_, 1)) : AWo X r0 pc ls [] σ (some (0, σ)) := fun ho H locs lsA h1 h2 h3 h4 => by
  cases ho
  rw [hQ]
  exact W.vret hX.1 hX.2.1 hr (fun t ht hW => ⟨⟨(), rfl, trivial, HO.warm hW (by rw [ht]; exact h2) hX.2.2.2.2.2.1 h3 hX.2.2.2.2.2.2.1⟩, h4.F ht⟩) h4.2.2 d hX.2.2.2.2.2.2.2.1
end ENDS
theorem lv_args_get {ρ : Nat → Nat} : ∀ (as : List Value) (b i : Nat) (v : Value), (∀ u ∈ as, u.category = 1) → as[i]? = some v → (b + i, cv ρ v) ∈ lv_args b (as.map (cv ρ))
  | [], b, i, v, _, h => by simp at h
  | a :: t, b, 0, v, hc, h => by
    have e : a = v := by simpa using h
    subst e
    simp [lv_args]
  | a :: t, b, i + 1, v, hc, h => by
    have h1 := lv_args_get (ρ := ρ) t (b + 1) i v (fun u hu => hc u (List.mem_cons_of_mem _ hu)) (by simpa using h)
    have h2 : (cv ρ a).category = 1 := by rw [cv_cat]; exact hc a List.mem_cons_self
    simp only [List.map_cons, lv_args, h2]
    rw [show b + (i + 1) = b + 1 + i by omega]
    exact List.mem_cons_of_mem _ h1
theorem lg_sl_len {ρ : Nat → Nat} : ∀ (as : List Value), (∀ u ∈ as, u.category = 1) → (lg_sl (as.map (cv ρ))).length = as.length
  | [], _ => rfl
  | a :: t, hc => by
    have h1 := lg_sl_len (ρ := ρ) t (fun u hu => hc u (List.mem_cons_of_mem _ hu))
    have h2 : (cv ρ a).category = 1 := by rw [cv_cat]; exact hc a List.mem_cons_self
    unfold lg_sl at h1 ⊢
    simp only [List.map_cons, List.flatMap_cons, List.length_append, h1]
    simp [h2]
    omega
theorem lvO_entry {ρ : Nat → Nat} (as : List Value) (mL : Nat) (hc : ∀ u ∈ as, u.category = 1) (hn : as.length ≤ mL) : lvO ρ ((lg_sl (as.map (cv ρ)) ++ List.replicate (mL - (lg_sl (as.map (cv ρ))).length) Slot.unset).toArray) (as.map some ++ List.replicate (mL - as.length) none) := by
  have hl := lv_entry (as.map (cv ρ)) (n := mL) (by rw [lg_sl_len as hc]; exact hn)
  refine ⟨by rw [hl.1]; simp; omega, hl.2.1, fun i v hv => ?_⟩
  have hi : i < as.length := by
    apply Nat.lt_of_not_le
    intro h
    rw [List.getElem?_append_right (by simpa using h)] at hv
    have := List.mem_of_getElem? hv
    simp at this
  rw [List.getElem?_append_left (by simpa using hi)] at hv
  have hv2 : as[i]? = some v := by simpa using hv
  have hm := lv_args_get (ρ := ρ) as 0 i v hc hv2
  rw [Nat.zero_add] at hm
  exact ⟨hl.2.2 _ hm, hc v (List.mem_of_getElem? hv2)⟩
theorem ci_of {l : Launch} {y : MethodName} {b : ByteArray} {mL fr lo : Nat} {ret : Option FieldType} {as : List Value} {σ : Mem} {oo : Option (Int32 × Mem)} (hy : plainName y.cls = true) (hc : ∀ u ∈ as, u.category = 1) (hn : as.length ≤ mL)
    (body : ∀ (X : AX) (r : Int32 × Mem), aL X = l → CX X b mL y.cls → aR X = rmOf fr lo → QI X r → (aMeth X).sig.returnType = ret → AWo X r 0 (as.map some ++ List.replicate (mL - as.length) none) [] σ oo) : CI l y b mL ret fr lo as σ oo := by
  intro g r hoo
  refine Met.ofW (cc := b) (maxL := mL) (ret := ret) hy rfl ?_
  intro p e s m args below meth c s₁ B hml hv
  obtain ⟨rfl, hP, hK, hD, hN⟩ := hv
  have hts := atoms_spec (ws := .code y b mL ret :: BIG) B.pre
  rw [lg_entry_eq]
  by_cases hb : ∀ q, s.heap.size ≤ q → gb g ≤ q
  · exact body (p, l, e, rmOf fr lo, s, m, (as.map (cv (gr g))).toArray, below, meth, c, g, MQ below (va_Qi (fun v (_ : Unit) => v = r.1) (fun _ t => HO g r.2 t) (gA g)) (as.map (cv (gr g))).toArray s 0 0 (gA g)) r rfl
      ⟨B.exec, B.bytes, hml, findClass_of_methodNamed B.named, fun w hw => hts w (List.mem_cons_of_mem _ hw), hK, hN, B.notSynchronized, hb⟩ rfl rfl B.returns hoo s.heap [] _ (lvO_entry as mL hc hn) hP hD va_S.rf
  · exfalso
    apply hb
    intro q hq
    have h0 := hP 0 _ (wd_get s_0)
    have h1 := hD.2 0 _ (wd_get (g := g) (σ := σ) s_0)
    have h2 := h0.lt
    exact Nat.le_trans h1 (Nat.le_trans (Nat.le_of_lt h2) hq)
theorem cv_of {l : Launch} {y : MethodName} {b : ByteArray} {mL fr lo : Nat} {as : List Value} {σ : Mem} {oo : Option (Int32 × Mem)} (hy : plainName y.cls = true) (hc : ∀ u ∈ as, u.category = 1) (hn : as.length ≤ mL)
    (body : ∀ (X : AX) (r : Int32 × Mem), aL X = l → CX X b mL y.cls → aR X = rmOf fr lo → QV X r → (aMeth X).sig.returnType = none → AWo X r 0 (as.map some ++ List.replicate (mL - as.length) none) [] σ oo) : CV l y b mL fr lo as σ oo := by
  intro g r hoo
  refine Met.ofW (cc := b) (maxL := mL) (ret := none) hy rfl ?_
  intro p e s m args below meth c s₁ B hml hv
  obtain ⟨rfl, hP, hK, hD, hN⟩ := hv
  have hts := atoms_spec (ws := .code y b mL none :: BIG) B.pre
  rw [lg_entry_eq]
  by_cases hb : ∀ q, s.heap.size ≤ q → gb g ≤ q
  · exact body (p, l, e, rmOf fr lo, s, m, (as.map (cv (gr g))).toArray, below, meth, c, g, MQ below (va_Qv (fun (_ : Unit) => True) (fun _ t => HO g r.2 t) (gA g)) (as.map (cv (gr g))).toArray s 0 0 (gA g)) r rfl
      ⟨B.exec, B.bytes, hml, findClass_of_methodNamed B.named, fun w hw => hts w (List.mem_cons_of_mem _ hw), hK, hN, B.notSynchronized, hb⟩ rfl rfl B.returns hoo s.heap [] _ (lvO_entry as mL hc hn) hP hD va_S.rf
  · exfalso
    apply hb
    intro q hq
    have h0 := hP 0 _ (wd_get s_0)
    have h1 := hD.2 0 _ (wd_get (g := g) (σ := σ) s_0)
    have h2 := h0.lt
    exact Nat.le_trans h1 (Nat.le_trans (Nat.le_of_lt h2) hq)
end
