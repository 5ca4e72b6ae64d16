-- ===== PART A: goes FIRST, ahead of the names: the tables' words, and 'selects' of the private methods out of them =====
/-- a private method of a class that the tables say can be made, by its rows of tables_1 -/
def lw_okq (q : MethodName × Nat) : Prop := (q.1.cls ≠ "java/lang/invoke/MethodHandle" ∧ q.1.cls ≠ "java/lang/invoke/VarHandle") ∧ Cond.instantiable q.1.cls q.2 ∈ tables_1 ∧ Cond.privateMethod q.1 ∈ tables_1 ∧ Cond.instanceMethod q.1 ∈ tables_1
theorem lw_p0 : lw_okq (⟨"MoonWash", "feedNumber", "(I)V"⟩, 13) := ⟨⟨by decide +kernel, by decide +kernel⟩, List.mem_of_getElem? (i := 31) (by decide +kernel), List.mem_of_getElem? (i := 357) (by decide +kernel), List.mem_of_getElem? (i := 358) (by decide +kernel)⟩
theorem lw_p1 : lw_okq (⟨"MoonWash$Law", "sumOf", "(ILMoonWash$Moon;I)I"⟩, 8) := ⟨⟨by decide +kernel, by decide +kernel⟩, List.mem_of_getElem? (i := 163) (by decide +kernel), List.mem_of_getElem? (i := 419) (by decide +kernel), List.mem_of_getElem? (i := 420) (by decide +kernel)⟩
theorem lw_p2 : lw_okq (⟨"MoonWash$Law", "look", "(LMoonWash$Moon;I)V"⟩, 8) := ⟨⟨by decide +kernel, by decide +kernel⟩, List.mem_of_getElem? (i := 163) (by decide +kernel), List.mem_of_getElem? (i := 423) (by decide +kernel), List.mem_of_getElem? (i := 424) (by decide +kernel)⟩
theorem lw_p3 : lw_okq (⟨"MoonWash$Law", "holds", "(II)Z"⟩, 8) := ⟨⟨by decide +kernel, by decide +kernel⟩, List.mem_of_getElem? (i := 163) (by decide +kernel), List.mem_of_getElem? (i := 433) (by decide +kernel), List.mem_of_getElem? (i := 434) (by decide +kernel)⟩
theorem lw_p4 : lw_okq (⟨"MoonWash", "cutTape", "()V"⟩, 13) := ⟨⟨by decide +kernel, by decide +kernel⟩, List.mem_of_getElem? (i := 31) (by decide +kernel), List.mem_of_getElem? (i := 520) (by decide +kernel), List.mem_of_getElem? (i := 521) (by decide +kernel)⟩
theorem lw_p5 : lw_okq (⟨"MoonWash$Words", "put", "(IIII)V"⟩, 7) := ⟨⟨by decide +kernel, by decide +kernel⟩, List.mem_of_getElem? (i := 195) (by decide +kernel), List.mem_of_getElem? (i := 534) (by decide +kernel), List.mem_of_getElem? (i := 535) (by decide +kernel)⟩
theorem lw_p6 : lw_okq (⟨"MoonWash$Words", "numberAt", "(II)I"⟩, 7) := ⟨⟨by decide +kernel, by decide +kernel⟩, List.mem_of_getElem? (i := 195) (by decide +kernel), List.mem_of_getElem? (i := 540) (by decide +kernel), List.mem_of_getElem? (i := 541) (by decide +kernel)⟩
theorem lw_p7 : lw_okq (⟨"MoonWash$Token", "isAt", "([III)Z"⟩, 5) := ⟨⟨by decide +kernel, by decide +kernel⟩, List.mem_of_getElem? (i := 551) (by decide +kernel), List.mem_of_getElem? (i := 549) (by decide +kernel), List.mem_of_getElem? (i := 550) (by decide +kernel)⟩
theorem lw_p8 : lw_okq (⟨"MoonWash", "checkText", "()V"⟩, 13) := ⟨⟨by decide +kernel, by decide +kernel⟩, List.mem_of_getElem? (i := 31) (by decide +kernel), List.mem_of_getElem? (i := 688) (by decide +kernel), List.mem_of_getElem? (i := 689) (by decide +kernel)⟩
theorem lw_p9 : lw_okq (⟨"java/lang/Throwable", "fillInStackTrace", "(I)Ljava/lang/Throwable;"⟩, 6) := ⟨⟨by decide +kernel, by decide +kernel⟩, List.mem_of_getElem? (i := 732) (by decide +kernel), List.mem_of_getElem? (i := 730) (by decide +kernel), List.mem_of_getElem? (i := 731) (by decide +kernel)⟩
theorem lw_p10 : lw_okq (⟨"MoonWash", "shareOf", "(I)I"⟩, 13) := ⟨⟨by decide +kernel, by decide +kernel⟩, List.mem_of_getElem? (i := 31) (by decide +kernel), List.mem_of_getElem? (i := 880) (by decide +kernel), List.mem_of_getElem? (i := 881) (by decide +kernel)⟩
theorem lw_p11 : lw_okq (⟨"MoonWash", "checkSoap", "(I)V"⟩, 13) := ⟨⟨by decide +kernel, by decide +kernel⟩, List.mem_of_getElem? (i := 31) (by decide +kernel), List.mem_of_getElem? (i := 918) (by decide +kernel), List.mem_of_getElem? (i := 919) (by decide +kernel)⟩
theorem lw_p12 : lw_okq (⟨"MoonWash$Laundry", "draw", "()I"⟩, 13) := ⟨⟨by decide +kernel, by decide +kernel⟩, List.mem_of_getElem? (i := 39) (by decide +kernel), List.mem_of_getElem? (i := 1050) (by decide +kernel), List.mem_of_getElem? (i := 1051) (by decide +kernel)⟩
theorem lw_p13 : lw_okq (⟨"MoonWash", "whiteIfWashed", "(II)I"⟩, 13) := ⟨⟨by decide +kernel, by decide +kernel⟩, List.mem_of_getElem? (i := 31) (by decide +kernel), List.mem_of_getElem? (i := 1074) (by decide +kernel), List.mem_of_getElem? (i := 1075) (by decide +kernel)⟩
theorem lw_p14 : lw_okq (⟨"MoonWash$WaterPlan", "waterWith", "(III)I"⟩, 4) := ⟨⟨by decide +kernel, by decide +kernel⟩, List.mem_of_getElem? (i := 277) (by decide +kernel), List.mem_of_getElem? (i := 1106) (by decide +kernel), List.mem_of_getElem? (i := 1107) (by decide +kernel)⟩
theorem lw_p15 : lw_okq (⟨"MoonWash$WaterPlan", "firstChoice", "(II)I"⟩, 4) := ⟨⟨by decide +kernel, by decide +kernel⟩, List.mem_of_getElem? (i := 277) (by decide +kernel), List.mem_of_getElem? (i := 1120) (by decide +kernel), List.mem_of_getElem? (i := 1121) (by decide +kernel)⟩
def lw_privs_1 : List (MethodName × Nat) := [(⟨"MoonWash", "feedNumber", "(I)V"⟩, 13), (⟨"MoonWash$Law", "sumOf", "(ILMoonWash$Moon;I)I"⟩, 8), (⟨"MoonWash$Law", "look", "(LMoonWash$Moon;I)V"⟩, 8), (⟨"MoonWash$Law", "holds", "(II)Z"⟩, 8), (⟨"MoonWash", "cutTape", "()V"⟩, 13), (⟨"MoonWash$Words", "put", "(IIII)V"⟩, 7), (⟨"MoonWash$Words", "numberAt", "(II)I"⟩, 7), (⟨"MoonWash$Token", "isAt", "([III)Z"⟩, 5), (⟨"MoonWash", "checkText", "()V"⟩, 13), (⟨"java/lang/Throwable", "fillInStackTrace", "(I)Ljava/lang/Throwable;"⟩, 6), (⟨"MoonWash", "shareOf", "(I)I"⟩, 13), (⟨"MoonWash", "checkSoap", "(I)V"⟩, 13), (⟨"MoonWash$Laundry", "draw", "()I"⟩, 13), (⟨"MoonWash", "whiteIfWashed", "(II)I"⟩, 13), (⟨"MoonWash$WaterPlan", "waterWith", "(III)I"⟩, 4), (⟨"MoonWash$WaterPlan", "firstChoice", "(II)I"⟩, 4)]
theorem lw_r1 : ∀ q ∈ lw_privs_1, lw_okq q := List.forall_mem_cons.mpr ⟨lw_p0, List.forall_mem_cons.mpr ⟨lw_p1, List.forall_mem_cons.mpr ⟨lw_p2, List.forall_mem_cons.mpr ⟨lw_p3, List.forall_mem_cons.mpr ⟨lw_p4, List.forall_mem_cons.mpr ⟨lw_p5, List.forall_mem_cons.mpr ⟨lw_p6, List.forall_mem_cons.mpr ⟨lw_p7, List.forall_mem_cons.mpr ⟨lw_p8, List.forall_mem_cons.mpr ⟨lw_p9, List.forall_mem_cons.mpr ⟨lw_p10, List.forall_mem_cons.mpr ⟨lw_p11, List.forall_mem_cons.mpr ⟨lw_p12, List.forall_mem_cons.mpr ⟨lw_p13, List.forall_mem_cons.mpr ⟨lw_p14, List.forall_mem_cons.mpr ⟨lw_p15, fun _ h => absurd h List.not_mem_nil⟩⟩⟩⟩⟩⟩⟩⟩⟩⟩⟩⟩⟩⟩⟩⟩
theorem lw_p16 : lw_okq (⟨"MoonWash", "nightsOnPeg", "(III)I"⟩, 13) := ⟨⟨by decide +kernel, by decide +kernel⟩, List.mem_of_getElem? (i := 31) (by decide +kernel), List.mem_of_getElem? (i := 1146) (by decide +kernel), List.mem_of_getElem? (i := 1147) (by decide +kernel)⟩
theorem lw_p17 : lw_okq (⟨"MoonWash$PegPlan", "nightsWith", "(III)I"⟩, 2) := ⟨⟨by decide +kernel, by decide +kernel⟩, List.mem_of_getElem? (i := 298) (by decide +kernel), List.mem_of_getElem? (i := 1163) (by decide +kernel), List.mem_of_getElem? (i := 1164) (by decide +kernel)⟩
theorem lw_p18 : lw_okq (⟨"MoonWash$PegPlan", "firstPeg", "(II)I"⟩, 2) := ⟨⟨by decide +kernel, by decide +kernel⟩, List.mem_of_getElem? (i := 298) (by decide +kernel), List.mem_of_getElem? (i := 1177) (by decide +kernel), List.mem_of_getElem? (i := 1178) (by decide +kernel)⟩
theorem lw_p19 : lw_okq (⟨"MoonWash", "setsThatFit", "()I"⟩, 13) := ⟨⟨by decide +kernel, by decide +kernel⟩, List.mem_of_getElem? (i := 31) (by decide +kernel), List.mem_of_getElem? (i := 1207) (by decide +kernel), List.mem_of_getElem? (i := 1208) (by decide +kernel)⟩
theorem lw_p20 : lw_okq (⟨"MoonWash", "duesNotMet", "()I"⟩, 13) := ⟨⟨by decide +kernel, by decide +kernel⟩, List.mem_of_getElem? (i := 31) (by decide +kernel), List.mem_of_getElem? (i := 1235) (by decide +kernel), List.mem_of_getElem? (i := 1236) (by decide +kernel)⟩
theorem lw_p21 : lw_okq (⟨"MoonWash", "tryNights", "(II)V"⟩, 13) := ⟨⟨by decide +kernel, by decide +kernel⟩, List.mem_of_getElem? (i := 31) (by decide +kernel), List.mem_of_getElem? (i := 1260) (by decide +kernel), List.mem_of_getElem? (i := 1261) (by decide +kernel)⟩
theorem lw_p22 : lw_okq (⟨"MoonWashModel", "has", "(III)V"⟩, 26) := ⟨⟨by decide +kernel, by decide +kernel⟩, List.mem_of_getElem? (i := 1294) (by decide +kernel), List.mem_of_getElem? (i := 1300) (by decide +kernel), List.mem_of_getElem? (i := 1301) (by decide +kernel)⟩
theorem lw_p23 : lw_okq (⟨"MoonWashModel", "putsAside", "()V"⟩, 26) := ⟨⟨by decide +kernel, by decide +kernel⟩, List.mem_of_getElem? (i := 1294) (by decide +kernel), List.mem_of_getElem? (i := 1403) (by decide +kernel), List.mem_of_getElem? (i := 1404) (by decide +kernel)⟩
theorem lw_p24 : lw_okq (⟨"MoonWashModel", "begins", "()V"⟩, 26) := ⟨⟨by decide +kernel, by decide +kernel⟩, List.mem_of_getElem? (i := 1294) (by decide +kernel), List.mem_of_getElem? (i := 1407) (by decide +kernel), List.mem_of_getElem? (i := 1408) (by decide +kernel)⟩
theorem lw_p25 : lw_okq (⟨"MoonWashModel", "read", "(Z)I"⟩, 26) := ⟨⟨by decide +kernel, by decide +kernel⟩, List.mem_of_getElem? (i := 1294) (by decide +kernel), List.mem_of_getElem? (i := 1411) (by decide +kernel), List.mem_of_getElem? (i := 1412) (by decide +kernel)⟩
theorem lw_p26 : lw_okq (⟨"MoonWashModel", "skip", "()V"⟩, 26) := ⟨⟨by decide +kernel, by decide +kernel⟩, List.mem_of_getElem? (i := 1294) (by decide +kernel), List.mem_of_getElem? (i := 1415) (by decide +kernel), List.mem_of_getElem? (i := 1416) (by decide +kernel)⟩
theorem lw_p27 : lw_okq (⟨"MoonWashModel", "letter", "(I)I"⟩, 26) := ⟨⟨by decide +kernel, by decide +kernel⟩, List.mem_of_getElem? (i := 1294) (by decide +kernel), List.mem_of_getElem? (i := 1419) (by decide +kernel), List.mem_of_getElem? (i := 1420) (by decide +kernel)⟩
theorem lw_p28 : lw_okq (⟨"MoonWashModel", "wrong", "(I)V"⟩, 26) := ⟨⟨by decide +kernel, by decide +kernel⟩, List.mem_of_getElem? (i := 1294) (by decide +kernel), List.mem_of_getElem? (i := 1423) (by decide +kernel), List.mem_of_getElem? (i := 1424) (by decide +kernel)⟩
theorem lw_p29 : lw_okq (⟨"MoonWashModel", "lawLine", "()V"⟩, 26) := ⟨⟨by decide +kernel, by decide +kernel⟩, List.mem_of_getElem? (i := 1294) (by decide +kernel), List.mem_of_getElem? (i := 1427) (by decide +kernel), List.mem_of_getElem? (i := 1428) (by decide +kernel)⟩
theorem lw_p30 : lw_okq (⟨"MoonWashModel", "has", "(Ljava/lang/String;)Z"⟩, 26) := ⟨⟨by decide +kernel, by decide +kernel⟩, List.mem_of_getElem? (i := 1294) (by decide +kernel), List.mem_of_getElem? (i := 1432) (by decide +kernel), List.mem_of_getElem? (i := 1433) (by decide +kernel)⟩
theorem lw_p31 : lw_okq (⟨"MoonWashModel", "figures", "(II)I"⟩, 26) := ⟨⟨by decide +kernel, by decide +kernel⟩, List.mem_of_getElem? (i := 1294) (by decide +kernel), List.mem_of_getElem? (i := 1441) (by decide +kernel), List.mem_of_getElem? (i := 1442) (by decide +kernel)⟩
def lw_privs_2 : List (MethodName × Nat) := [(⟨"MoonWash", "nightsOnPeg", "(III)I"⟩, 13), (⟨"MoonWash$PegPlan", "nightsWith", "(III)I"⟩, 2), (⟨"MoonWash$PegPlan", "firstPeg", "(II)I"⟩, 2), (⟨"MoonWash", "setsThatFit", "()I"⟩, 13), (⟨"MoonWash", "duesNotMet", "()I"⟩, 13), (⟨"MoonWash", "tryNights", "(II)V"⟩, 13), (⟨"MoonWashModel", "has", "(III)V"⟩, 26), (⟨"MoonWashModel", "putsAside", "()V"⟩, 26), (⟨"MoonWashModel", "begins", "()V"⟩, 26), (⟨"MoonWashModel", "read", "(Z)I"⟩, 26), (⟨"MoonWashModel", "skip", "()V"⟩, 26), (⟨"MoonWashModel", "letter", "(I)I"⟩, 26), (⟨"MoonWashModel", "wrong", "(I)V"⟩, 26), (⟨"MoonWashModel", "lawLine", "()V"⟩, 26), (⟨"MoonWashModel", "has", "(Ljava/lang/String;)Z"⟩, 26), (⟨"MoonWashModel", "figures", "(II)I"⟩, 26)]
theorem lw_r2 : ∀ q ∈ lw_privs_2, lw_okq q := List.forall_mem_cons.mpr ⟨lw_p16, List.forall_mem_cons.mpr ⟨lw_p17, List.forall_mem_cons.mpr ⟨lw_p18, List.forall_mem_cons.mpr ⟨lw_p19, List.forall_mem_cons.mpr ⟨lw_p20, List.forall_mem_cons.mpr ⟨lw_p21, List.forall_mem_cons.mpr ⟨lw_p22, List.forall_mem_cons.mpr ⟨lw_p23, List.forall_mem_cons.mpr ⟨lw_p24, List.forall_mem_cons.mpr ⟨lw_p25, List.forall_mem_cons.mpr ⟨lw_p26, List.forall_mem_cons.mpr ⟨lw_p27, List.forall_mem_cons.mpr ⟨lw_p28, List.forall_mem_cons.mpr ⟨lw_p29, List.forall_mem_cons.mpr ⟨lw_p30, List.forall_mem_cons.mpr ⟨lw_p31, fun _ h => absurd h List.not_mem_nil⟩⟩⟩⟩⟩⟩⟩⟩⟩⟩⟩⟩⟩⟩⟩⟩
theorem lw_p32 : lw_okq (⟨"MoonWashModel", "place", "()I"⟩, 26) := ⟨⟨by decide +kernel, by decide +kernel⟩, List.mem_of_getElem? (i := 1294) (by decide +kernel), List.mem_of_getElem? (i := 1445) (by decide +kernel), List.mem_of_getElem? (i := 1446) (by decide +kernel)⟩
theorem lw_p33 : lw_okq (⟨"MoonWashModel", "some", "()Z"⟩, 26) := ⟨⟨by decide +kernel, by decide +kernel⟩, List.mem_of_getElem? (i := 1294) (by decide +kernel), List.mem_of_getElem? (i := 1450) (by decide +kernel), List.mem_of_getElem? (i := 1451) (by decide +kernel)⟩
theorem lw_p34 : lw_okq (⟨"MoonWashModel", "every", "()Z"⟩, 26) := ⟨⟨by decide +kernel, by decide +kernel⟩, List.mem_of_getElem? (i := 1294) (by decide +kernel), List.mem_of_getElem? (i := 1454) (by decide +kernel), List.mem_of_getElem? (i := 1455) (by decide +kernel)⟩
theorem lw_p35 : lw_okq (⟨"MoonWashModel", "atom", "()Z"⟩, 26) := ⟨⟨by decide +kernel, by decide +kernel⟩, List.mem_of_getElem? (i := 1294) (by decide +kernel), List.mem_of_getElem? (i := 1458) (by decide +kernel), List.mem_of_getElem? (i := 1459) (by decide +kernel)⟩
theorem lw_p36 : lw_okq (⟨"MoonWashModel", "isSign", "(I)Z"⟩, 26) := ⟨⟨by decide +kernel, by decide +kernel⟩, List.mem_of_getElem? (i := 1294) (by decide +kernel), List.mem_of_getElem? (i := 1463) (by decide +kernel), List.mem_of_getElem? (i := 1464) (by decide +kernel)⟩
theorem lw_p37 : lw_okq (⟨"MoonWashModel", "plain", "()Z"⟩, 26) := ⟨⟨by decide +kernel, by decide +kernel⟩, List.mem_of_getElem? (i := 1294) (by decide +kernel), List.mem_of_getElem? (i := 1467) (by decide +kernel), List.mem_of_getElem? (i := 1468) (by decide +kernel)⟩
theorem lw_p38 : lw_okq (⟨"MoonWashModel", "sum", "()I"⟩, 26) := ⟨⟨by decide +kernel, by decide +kernel⟩, List.mem_of_getElem? (i := 1294) (by decide +kernel), List.mem_of_getElem? (i := 1473) (by decide +kernel), List.mem_of_getElem? (i := 1474) (by decide +kernel)⟩
theorem lw_p39 : lw_okq (⟨"MoonWashModel", "part", "()I"⟩, 26) := ⟨⟨by decide +kernel, by decide +kernel⟩, List.mem_of_getElem? (i := 1294) (by decide +kernel), List.mem_of_getElem? (i := 1477) (by decide +kernel), List.mem_of_getElem? (i := 1478) (by decide +kernel)⟩
theorem lw_p40 : lw_okq (⟨"MoonWashModel", "houseLine", "()V"⟩, 26) := ⟨⟨by decide +kernel, by decide +kernel⟩, List.mem_of_getElem? (i := 1294) (by decide +kernel), List.mem_of_getElem? (i := 1491) (by decide +kernel), List.mem_of_getElem? (i := 1492) (by decide +kernel)⟩
theorem lw_p41 : lw_okq (⟨"MoonWashModel", "soapLine", "(I)V"⟩, 26) := ⟨⟨by decide +kernel, by decide +kernel⟩, List.mem_of_getElem? (i := 1294) (by decide +kernel), List.mem_of_getElem? (i := 1496) (by decide +kernel), List.mem_of_getElem? (i := 1497) (by decide +kernel)⟩
theorem lw_p42 : lw_okq (⟨"MoonWashModel", "after", "(Ljava/lang/String;II)I"⟩, 26) := ⟨⟨by decide +kernel, by decide +kernel⟩, List.mem_of_getElem? (i := 1294) (by decide +kernel), List.mem_of_getElem? (i := 1501) (by decide +kernel), List.mem_of_getElem? (i := 1502) (by decide +kernel)⟩
theorem lw_p43 : lw_okq (⟨"MoonWashModel", "kinds", "(Ljava/lang/String;)I"⟩, 26) := ⟨⟨by decide +kernel, by decide +kernel⟩, List.mem_of_getElem? (i := 1294) (by decide +kernel), List.mem_of_getElem? (i := 1507) (by decide +kernel), List.mem_of_getElem? (i := 1508) (by decide +kernel)⟩
theorem lw_p44 : lw_okq (⟨"MoonWashModel", "partLine", "()V"⟩, 26) := ⟨⟨by decide +kernel, by decide +kernel⟩, List.mem_of_getElem? (i := 1294) (by decide +kernel), List.mem_of_getElem? (i := 1514) (by decide +kernel), List.mem_of_getElem? (i := 1515) (by decide +kernel)⟩
theorem lw_p45 : lw_okq (⟨"MoonWashModel", "tells", "(II)V"⟩, 26) := ⟨⟨by decide +kernel, by decide +kernel⟩, List.mem_of_getElem? (i := 1294) (by decide +kernel), List.mem_of_getElem? (i := 1518) (by decide +kernel), List.mem_of_getElem? (i := 1519) (by decide +kernel)⟩
theorem lw_p46 : lw_okq (⟨"MoonWashModel", "dueLine", "(I)V"⟩, 26) := ⟨⟨by decide +kernel, by decide +kernel⟩, List.mem_of_getElem? (i := 1294) (by decide +kernel), List.mem_of_getElem? (i := 1523) (by decide +kernel), List.mem_of_getElem? (i := 1524) (by decide +kernel)⟩
theorem lw_p47 : lw_okq (⟨"MoonWashModel", "comesBack", "()V"⟩, 26) := ⟨⟨by decide +kernel, by decide +kernel⟩, List.mem_of_getElem? (i := 1294) (by decide +kernel), List.mem_of_getElem? (i := 1531) (by decide +kernel), List.mem_of_getElem? (i := 1532) (by decide +kernel)⟩
def lw_privs_3 : List (MethodName × Nat) := [(⟨"MoonWashModel", "place", "()I"⟩, 26), (⟨"MoonWashModel", "some", "()Z"⟩, 26), (⟨"MoonWashModel", "every", "()Z"⟩, 26), (⟨"MoonWashModel", "atom", "()Z"⟩, 26), (⟨"MoonWashModel", "isSign", "(I)Z"⟩, 26), (⟨"MoonWashModel", "plain", "()Z"⟩, 26), (⟨"MoonWashModel", "sum", "()I"⟩, 26), (⟨"MoonWashModel", "part", "()I"⟩, 26), (⟨"MoonWashModel", "houseLine", "()V"⟩, 26), (⟨"MoonWashModel", "soapLine", "(I)V"⟩, 26), (⟨"MoonWashModel", "after", "(Ljava/lang/String;II)I"⟩, 26), (⟨"MoonWashModel", "kinds", "(Ljava/lang/String;)I"⟩, 26), (⟨"MoonWashModel", "partLine", "()V"⟩, 26), (⟨"MoonWashModel", "tells", "(II)V"⟩, 26), (⟨"MoonWashModel", "dueLine", "(I)V"⟩, 26), (⟨"MoonWashModel", "comesBack", "()V"⟩, 26)]
theorem lw_r3 : ∀ q ∈ lw_privs_3, lw_okq q := List.forall_mem_cons.mpr ⟨lw_p32, List.forall_mem_cons.mpr ⟨lw_p33, List.forall_mem_cons.mpr ⟨lw_p34, List.forall_mem_cons.mpr ⟨lw_p35, List.forall_mem_cons.mpr ⟨lw_p36, List.forall_mem_cons.mpr ⟨lw_p37, List.forall_mem_cons.mpr ⟨lw_p38, List.forall_mem_cons.mpr ⟨lw_p39, List.forall_mem_cons.mpr ⟨lw_p40, List.forall_mem_cons.mpr ⟨lw_p41, List.forall_mem_cons.mpr ⟨lw_p42, List.forall_mem_cons.mpr ⟨lw_p43, List.forall_mem_cons.mpr ⟨lw_p44, List.forall_mem_cons.mpr ⟨lw_p45, List.forall_mem_cons.mpr ⟨lw_p46, List.forall_mem_cons.mpr ⟨lw_p47, fun _ h => absurd h List.not_mem_nil⟩⟩⟩⟩⟩⟩⟩⟩⟩⟩⟩⟩⟩⟩⟩⟩
theorem lw_p48 : lw_okq (⟨"MoonWashModel", "of", "(II)I"⟩, 26) := ⟨⟨by decide +kernel, by decide +kernel⟩, List.mem_of_getElem? (i := 1294) (by decide +kernel), List.mem_of_getElem? (i := 1551) (by decide +kernel), List.mem_of_getElem? (i := 1552) (by decide +kernel)⟩
theorem lw_p49 : lw_okq (⟨"MoonWashModel", "lightOf", "(I)I"⟩, 26) := ⟨⟨by decide +kernel, by decide +kernel⟩, List.mem_of_getElem? (i := 1294) (by decide +kernel), List.mem_of_getElem? (i := 1555) (by decide +kernel), List.mem_of_getElem? (i := 1556) (by decide +kernel)⟩
theorem lw_p50 : lw_okq (⟨"MoonWashModel", "whiteOf", "(I)I"⟩, 26) := ⟨⟨by decide +kernel, by decide +kernel⟩, List.mem_of_getElem? (i := 1294) (by decide +kernel), List.mem_of_getElem? (i := 1559) (by decide +kernel), List.mem_of_getElem? (i := 1560) (by decide +kernel)⟩
theorem lw_p51 : lw_okq (⟨"MoonWashModel", "asks", "(I)V"⟩, 26) := ⟨⟨by decide +kernel, by decide +kernel⟩, List.mem_of_getElem? (i := 1294) (by decide +kernel), List.mem_of_getElem? (i := 1563) (by decide +kernel), List.mem_of_getElem? (i := 1564) (by decide +kernel)⟩
theorem lw_p52 : lw_okq (⟨"MoonWashModel", "driesBy", "(I)I"⟩, 26) := ⟨⟨by decide +kernel, by decide +kernel⟩, List.mem_of_getElem? (i := 1294) (by decide +kernel), List.mem_of_getElem? (i := 1576) (by decide +kernel), List.mem_of_getElem? (i := 1577) (by decide +kernel)⟩
theorem lw_p53 : lw_okq (⟨"MoonWashModel", "share", "(I)I"⟩, 26) := ⟨⟨by decide +kernel, by decide +kernel⟩, List.mem_of_getElem? (i := 1294) (by decide +kernel), List.mem_of_getElem? (i := 1580) (by decide +kernel), List.mem_of_getElem? (i := 1581) (by decide +kernel)⟩
theorem lw_p54 : lw_okq (⟨"MoonWashModel", "lightOfAll", "()I"⟩, 26) := ⟨⟨by decide +kernel, by decide +kernel⟩, List.mem_of_getElem? (i := 1294) (by decide +kernel), List.mem_of_getElem? (i := 1584) (by decide +kernel), List.mem_of_getElem? (i := 1585) (by decide +kernel)⟩
theorem lw_p55 : lw_okq (⟨"MoonWashModel", "never", "(I)I"⟩, 26) := ⟨⟨by decide +kernel, by decide +kernel⟩, List.mem_of_getElem? (i := 1294) (by decide +kernel), List.mem_of_getElem? (i := 1588) (by decide +kernel), List.mem_of_getElem? (i := 1589) (by decide +kernel)⟩
theorem lw_p56 : lw_okq (⟨"MoonWashModel", "ofSoap", "(II)I"⟩, 26) := ⟨⟨by decide +kernel, by decide +kernel⟩, List.mem_of_getElem? (i := 1294) (by decide +kernel), List.mem_of_getElem? (i := 1592) (by decide +kernel), List.mem_of_getElem? (i := 1593) (by decide +kernel)⟩
theorem lw_p57 : lw_okq (⟨"MoonWashModel", "isSoap", "(I)Z"⟩, 26) := ⟨⟨by decide +kernel, by decide +kernel⟩, List.mem_of_getElem? (i := 1294) (by decide +kernel), List.mem_of_getElem? (i := 1600) (by decide +kernel), List.mem_of_getElem? (i := 1601) (by decide +kernel)⟩
theorem lw_p58 : lw_okq (⟨"MoonWashModel", "partOn", "(I)I"⟩, 26) := ⟨⟨by decide +kernel, by decide +kernel⟩, List.mem_of_getElem? (i := 1294) (by decide +kernel), List.mem_of_getElem? (i := 1608) (by decide +kernel), List.mem_of_getElem? (i := 1609) (by decide +kernel)⟩
theorem lw_p59 : lw_okq (⟨"MoonWashModel", "remembers", "()V"⟩, 26) := ⟨⟨by decide +kernel, by decide +kernel⟩, List.mem_of_getElem? (i := 1294) (by decide +kernel), List.mem_of_getElem? (i := 1620) (by decide +kernel), List.mem_of_getElem? (i := 1621) (by decide +kernel)⟩
theorem lw_p60 : lw_okq (⟨"MoonWashModel", "cleans", "(II)V"⟩, 26) := ⟨⟨by decide +kernel, by decide +kernel⟩, List.mem_of_getElem? (i := 1294) (by decide +kernel), List.mem_of_getElem? (i := 1624) (by decide +kernel), List.mem_of_getElem? (i := 1625) (by decide +kernel)⟩
theorem lw_p61 : lw_okq (⟨"MoonWashModel", "goes", "(I)I"⟩, 26) := ⟨⟨by decide +kernel, by decide +kernel⟩, List.mem_of_getElem? (i := 1294) (by decide +kernel), List.mem_of_getElem? (i := 1648) (by decide +kernel), List.mem_of_getElem? (i := 1649) (by decide +kernel)⟩
theorem lw_p62 : lw_okq (⟨"MoonWashModel", "night", "()I"⟩, 26) := ⟨⟨by decide +kernel, by decide +kernel⟩, List.mem_of_getElem? (i := 1294) (by decide +kernel), List.mem_of_getElem? (i := 1652) (by decide +kernel), List.mem_of_getElem? (i := 1653) (by decide +kernel)⟩
theorem lw_p63 : lw_okq (⟨"MoonWashModel", "draw", "(I)I"⟩, 26) := ⟨⟨by decide +kernel, by decide +kernel⟩, List.mem_of_getElem? (i := 1294) (by decide +kernel), List.mem_of_getElem? (i := 1656) (by decide +kernel), List.mem_of_getElem? (i := 1657) (by decide +kernel)⟩
def lw_privs_4 : List (MethodName × Nat) := [(⟨"MoonWashModel", "of", "(II)I"⟩, 26), (⟨"MoonWashModel", "lightOf", "(I)I"⟩, 26), (⟨"MoonWashModel", "whiteOf", "(I)I"⟩, 26), (⟨"MoonWashModel", "asks", "(I)V"⟩, 26), (⟨"MoonWashModel", "driesBy", "(I)I"⟩, 26), (⟨"MoonWashModel", "share", "(I)I"⟩, 26), (⟨"MoonWashModel", "lightOfAll", "()I"⟩, 26), (⟨"MoonWashModel", "never", "(I)I"⟩, 26), (⟨"MoonWashModel", "ofSoap", "(II)I"⟩, 26), (⟨"MoonWashModel", "isSoap", "(I)Z"⟩, 26), (⟨"MoonWashModel", "partOn", "(I)I"⟩, 26), (⟨"MoonWashModel", "remembers", "()V"⟩, 26), (⟨"MoonWashModel", "cleans", "(II)V"⟩, 26), (⟨"MoonWashModel", "goes", "(I)I"⟩, 26), (⟨"MoonWashModel", "night", "()I"⟩, 26), (⟨"MoonWashModel", "draw", "(I)I"⟩, 26)]
theorem lw_r4 : ∀ q ∈ lw_privs_4, lw_okq q := List.forall_mem_cons.mpr ⟨lw_p48, List.forall_mem_cons.mpr ⟨lw_p49, List.forall_mem_cons.mpr ⟨lw_p50, List.forall_mem_cons.mpr ⟨lw_p51, List.forall_mem_cons.mpr ⟨lw_p52, List.forall_mem_cons.mpr ⟨lw_p53, List.forall_mem_cons.mpr ⟨lw_p54, List.forall_mem_cons.mpr ⟨lw_p55, List.forall_mem_cons.mpr ⟨lw_p56, List.forall_mem_cons.mpr ⟨lw_p57, List.forall_mem_cons.mpr ⟨lw_p58, List.forall_mem_cons.mpr ⟨lw_p59, List.forall_mem_cons.mpr ⟨lw_p60, List.forall_mem_cons.mpr ⟨lw_p61, List.forall_mem_cons.mpr ⟨lw_p62, List.forall_mem_cons.mpr ⟨lw_p63, fun _ h => absurd h List.not_mem_nil⟩⟩⟩⟩⟩⟩⟩⟩⟩⟩⟩⟩⟩⟩⟩⟩
theorem lw_p64 : lw_okq (⟨"MoonWashModel", "driesAll", "()I"⟩, 26) := ⟨⟨by decide +kernel, by decide +kernel⟩, List.mem_of_getElem? (i := 1294) (by decide +kernel), List.mem_of_getElem? (i := 1661) (by decide +kernel), List.mem_of_getElem? (i := 1662) (by decide +kernel)⟩
theorem lw_p65 : lw_okq (⟨"MoonWashModel", "dries", "(I)Z"⟩, 26) := ⟨⟨by decide +kernel, by decide +kernel⟩, List.mem_of_getElem? (i := 1294) (by decide +kernel), List.mem_of_getElem? (i := 1665) (by decide +kernel), List.mem_of_getElem? (i := 1666) (by decide +kernel)⟩
theorem lw_p66 : lw_okq (⟨"MoonWashModel", "passes", "()V"⟩, 26) := ⟨⟨by decide +kernel, by decide +kernel⟩, List.mem_of_getElem? (i := 1294) (by decide +kernel), List.mem_of_getElem? (i := 1669) (by decide +kernel), List.mem_of_getElem? (i := 1670) (by decide +kernel)⟩
theorem lw_p67 : lw_okq (⟨"MoonWashModel", "shining", "()I"⟩, 26) := ⟨⟨by decide +kernel, by decide +kernel⟩, List.mem_of_getElem? (i := 1294) (by decide +kernel), List.mem_of_getElem? (i := 1677) (by decide +kernel), List.mem_of_getElem? (i := 1678) (by decide +kernel)⟩
theorem lw_p68 : lw_okq (⟨"MoonWashModel", "wouldBe", "(II)I"⟩, 26) := ⟨⟨by decide +kernel, by decide +kernel⟩, List.mem_of_getElem? (i := 1294) (by decide +kernel), List.mem_of_getElem? (i := 1689) (by decide +kernel), List.mem_of_getElem? (i := 1690) (by decide +kernel)⟩
theorem lw_p69 : lw_okq (⟨"MoonWashModel", "white", "(II)I"⟩, 26) := ⟨⟨by decide +kernel, by decide +kernel⟩, List.mem_of_getElem? (i := 1294) (by decide +kernel), List.mem_of_getElem? (i := 1702) (by decide +kernel), List.mem_of_getElem? (i := 1703) (by decide +kernel)⟩
theorem lw_p70 : lw_okq (⟨"MoonWashModel", "from", "(II)I"⟩, 26) := ⟨⟨by decide +kernel, by decide +kernel⟩, List.mem_of_getElem? (i := 1294) (by decide +kernel), List.mem_of_getElem? (i := 1706) (by decide +kernel), List.mem_of_getElem? (i := 1707) (by decide +kernel)⟩
theorem lw_p71 : lw_okq (⟨"MoonWashModel", "costs", "(I)I"⟩, 26) := ⟨⟨by decide +kernel, by decide +kernel⟩, List.mem_of_getElem? (i := 1294) (by decide +kernel), List.mem_of_getElem? (i := 1710) (by decide +kernel), List.mem_of_getElem? (i := 1711) (by decide +kernel)⟩
theorem lw_p72 : lw_okq (⟨"MoonWashModel", "drySoon", "(II)I"⟩, 26) := ⟨⟨by decide +kernel, by decide +kernel⟩, List.mem_of_getElem? (i := 1294) (by decide +kernel), List.mem_of_getElem? (i := 1733) (by decide +kernel), List.mem_of_getElem? (i := 1734) (by decide +kernel)⟩
theorem lw_p73 : lw_okq (⟨"MoonWashModel", "find", "(III)Z"⟩, 26) := ⟨⟨by decide +kernel, by decide +kernel⟩, List.mem_of_getElem? (i := 1294) (by decide +kernel), List.mem_of_getElem? (i := 1741) (by decide +kernel), List.mem_of_getElem? (i := 1742) (by decide +kernel)⟩
theorem lw_p74 : lw_okq (⟨"MoonWashModel", "ahead", "(I)V"⟩, 26) := ⟨⟨by decide +kernel, by decide +kernel⟩, List.mem_of_getElem? (i := 1294) (by decide +kernel), List.mem_of_getElem? (i := 1749) (by decide +kernel), List.mem_of_getElem? (i := 1750) (by decide +kernel)⟩
theorem lw_p75 : lw_okq (⟨"MoonWashModel", "told", "()I"⟩, 26) := ⟨⟨by decide +kernel, by decide +kernel⟩, List.mem_of_getElem? (i := 1294) (by decide +kernel), List.mem_of_getElem? (i := 1769) (by decide +kernel), List.mem_of_getElem? (i := 1770) (by decide +kernel)⟩
theorem lw_p76 : lw_okq (⟨"MoonWashModel", "looks", "()V"⟩, 26) := ⟨⟨by decide +kernel, by decide +kernel⟩, List.mem_of_getElem? (i := 1294) (by decide +kernel), List.mem_of_getElem? (i := 1789) (by decide +kernel), List.mem_of_getElem? (i := 1790) (by decide +kernel)⟩
theorem lw_p77 : lw_okq (⟨"MoonWashModel", "stains", "()I"⟩, 26) := ⟨⟨by decide +kernel, by decide +kernel⟩, List.mem_of_getElem? (i := 1294) (by decide +kernel), List.mem_of_getElem? (i := 1805) (by decide +kernel), List.mem_of_getElem? (i := 1806) (by decide +kernel)⟩
theorem lw_p78 : lw_okq (⟨"MoonWashModel", "logged", "(II)I"⟩, 26) := ⟨⟨by decide +kernel, by decide +kernel⟩, List.mem_of_getElem? (i := 1294) (by decide +kernel), List.mem_of_getElem? (i := 1817) (by decide +kernel), List.mem_of_getElem? (i := 1818) (by decide +kernel)⟩
theorem lw_p79 : lw_okq (⟨"MoonWashModel", "such", "(I)I"⟩, 26) := ⟨⟨by decide +kernel, by decide +kernel⟩, List.mem_of_getElem? (i := 1294) (by decide +kernel), List.mem_of_getElem? (i := 1845) (by decide +kernel), List.mem_of_getElem? (i := 1846) (by decide +kernel)⟩
def lw_privs_5 : List (MethodName × Nat) := [(⟨"MoonWashModel", "driesAll", "()I"⟩, 26), (⟨"MoonWashModel", "dries", "(I)Z"⟩, 26), (⟨"MoonWashModel", "passes", "()V"⟩, 26), (⟨"MoonWashModel", "shining", "()I"⟩, 26), (⟨"MoonWashModel", "wouldBe", "(II)I"⟩, 26), (⟨"MoonWashModel", "white", "(II)I"⟩, 26), (⟨"MoonWashModel", "from", "(II)I"⟩, 26), (⟨"MoonWashModel", "costs", "(I)I"⟩, 26), (⟨"MoonWashModel", "drySoon", "(II)I"⟩, 26), (⟨"MoonWashModel", "find", "(III)Z"⟩, 26), (⟨"MoonWashModel", "ahead", "(I)V"⟩, 26), (⟨"MoonWashModel", "told", "()I"⟩, 26), (⟨"MoonWashModel", "looks", "()V"⟩, 26), (⟨"MoonWashModel", "stains", "()I"⟩, 26), (⟨"MoonWashModel", "logged", "(II)I"⟩, 26), (⟨"MoonWashModel", "such", "(I)I"⟩, 26)]
theorem lw_r5 : ∀ q ∈ lw_privs_5, lw_okq q := List.forall_mem_cons.mpr ⟨lw_p64, List.forall_mem_cons.mpr ⟨lw_p65, List.forall_mem_cons.mpr ⟨lw_p66, List.forall_mem_cons.mpr ⟨lw_p67, List.forall_mem_cons.mpr ⟨lw_p68, List.forall_mem_cons.mpr ⟨lw_p69, List.forall_mem_cons.mpr ⟨lw_p70, List.forall_mem_cons.mpr ⟨lw_p71, List.forall_mem_cons.mpr ⟨lw_p72, List.forall_mem_cons.mpr ⟨lw_p73, List.forall_mem_cons.mpr ⟨lw_p74, List.forall_mem_cons.mpr ⟨lw_p75, List.forall_mem_cons.mpr ⟨lw_p76, List.forall_mem_cons.mpr ⟨lw_p77, List.forall_mem_cons.mpr ⟨lw_p78, List.forall_mem_cons.mpr ⟨lw_p79, fun _ h => absurd h List.not_mem_nil⟩⟩⟩⟩⟩⟩⟩⟩⟩⟩⟩⟩⟩⟩⟩⟩
def lw_privs : List (MethodName × Nat) := lw_privs_1 ++ (lw_privs_2 ++ (lw_privs_3 ++ (lw_privs_4 ++ (lw_privs_5))))
def lw_tbl : List Cond := k2_sels lw_privs ++ tables_1
theorem lw_privs_ok : ∀ q ∈ lw_privs, lw_okq q := by
  show ∀ q ∈ lw_privs_1 ++ (lw_privs_2 ++ (lw_privs_3 ++ (lw_privs_4 ++ (lw_privs_5)))), lw_okq q
  exact List.forall_mem_append.mpr ⟨lw_r1, List.forall_mem_append.mpr ⟨lw_r2, List.forall_mem_append.mpr ⟨lw_r3, List.forall_mem_append.mpr ⟨lw_r4, lw_r5⟩⟩⟩⟩

def RX0 : String := "MoonWash$HouseText"
def TX0 : u_T := fun k => match k with
  | _ => ("", "", "", false)
def tyX0 : Nat → FieldType := fun k => match k with
  | _ => .int
abbrev wsX00 : List Cond := u_ws RX0 TX0 0
theorem nmX0 : ∀ a, a < 0 → ∀ b, b < 0 → a ≠ b → (TX0 a).2.1 ≠ (TX0 b).2.1 := by decide +kernel
theorem tyX0_ok : ∀ k, k < 0 → parseFieldDescriptor (TX0 k).2.2.1 = some (tyX0 k) := by decide +kernel
abbrev cX0_read : ByteArray := prog_2_method_2_code
def yX0_read : MethodName := ⟨RX0, "read", "(LMoonWash$Words;LMoonWash$Laundry;)V"⟩
abbrev cX0_readLine : ByteArray := prog_2_method_3_code
def yX0_readLine : MethodName := ⟨RX0, "readLine", "(LMoonWash$Words;LMoonWash$Laundry;)V"⟩
abbrev cX0_readSoap : ByteArray := prog_2_method_4_code
def yX0_readSoap : MethodName := ⟨RX0, "readSoap", "(LMoonWash$Words;LMoonWash$Laundry;)V"⟩
abbrev cX0_readDue : ByteArray := prog_2_method_5_code
def yX0_readDue : MethodName := ⟨RX0, "readDue", "(LMoonWash$Words;LMoonWash$Laundry;)V"⟩
abbrev cX0_readPart : ByteArray := prog_2_method_6_code
def yX0_readPart : MethodName := ⟨RX0, "readPart", "(LMoonWash$Words;LMoonWash$Moon;)V"⟩
def RX1 : String := "MoonWash$Image"
def TX1 : u_T := fun k => match k with
  | 0 => ("MoonWash$Image", "laundry", "LMoonWash$Laundry;", true)
  | 1 => ("MoonWash$Image", "law", "LMoonWash$Law;", true)
  | 2 => ("MoonWash$Image", "shone", "[I", true)
  | _ => ("MoonWash$Image", "taken", "Z", false)
def tyX1 : Nat → FieldType := fun k => match k with
  | 0 => .object "MoonWash$Laundry"
  | 1 => .object "MoonWash$Law"
  | 2 => .array .int
  | _ => .boolean
abbrev wsX10 : List Cond := u_ws RX1 TX1 4
theorem nmX1 : ∀ a, a < 4 → ∀ b, b < 4 → a ≠ b → (TX1 a).2.1 ≠ (TX1 b).2.1 := by decide +kernel
theorem tyX1_ok : ∀ k, k < 4 → parseFieldDescriptor (TX1 k).2.2.1 = some (tyX1 k) := by decide +kernel
abbrev cX1_init : ByteArray := prog_3_method_1_code
def yX1_init : MethodName := ⟨RX1, "<init>", "()V"⟩
abbrev cX1_keep : ByteArray := prog_3_method_2_code
def yX1_keep : MethodName := ⟨RX1, "keep", "(LMoonWash$Laundry;LMoonWash$Law;)V"⟩
def RX2 : String := "MoonWash$Laundry"
def TX2 : u_T := fun k => match k with
  | 0 => ("MoonWash$Laundry", "moon", "LMoonWash$Moon;", true)
  | 1 => ("MoonWash$Laundry", "soapRows", "[I", true)
  | 2 => ("MoonWash$Laundry", "soapCount", "I", false)
  | 3 => ("MoonWash$Laundry", "dueRows", "[I", true)
  | 4 => ("MoonWash$Laundry", "dueCount", "I", false)
  | 5 => ("MoonWash$Laundry", "texts", "I", false)
  | 6 => ("MoonWash$Laundry", "water", "I", false)
  | 7 => ("MoonWash$Laundry", "spring", "I", false)
  | 8 => ("MoonWash$Laundry", "wolves", "I", false)
  | 9 => ("MoonWash$Laundry", "thieves", "I", false)
  | 10 => ("MoonWash$Laundry", "seed", "I", false)
  | 11 => ("MoonWash$Laundry", "logRows", "[I", true)
  | _ => ("MoonWash$Laundry", "logTotal", "I", false)
def tyX2 : Nat → FieldType := fun k => match k with
  | 0 => .object "MoonWash$Moon"
  | 1 => .array .int
  | 2 => .int
  | 3 => .array .int
  | 4 => .int
  | 5 => .int
  | 6 => .int
  | 7 => .int
  | 8 => .int
  | 9 => .int
  | 10 => .int
  | 11 => .array .int
  | _ => .int
abbrev wsX20 : List Cond := u_ws RX2 TX2 13
theorem nmX2 : ∀ a, a < 13 → ∀ b, b < 13 → a ≠ b → (TX2 a).2.1 ≠ (TX2 b).2.1 := by decide +kernel
theorem tyX2_ok : ∀ k, k < 13 → parseFieldDescriptor (TX2 k).2.2.1 = some (tyX2 k) := by decide +kernel
abbrev cX2_init : ByteArray := prog_4_method_1_code
def yX2_init : MethodName := ⟨RX2, "<init>", "()V"⟩
abbrev cX2_become : ByteArray := prog_4_method_2_code
def yX2_become : MethodName := ⟨RX2, "become", "(LMoonWash$Laundry;)V"⟩
abbrev cX2_strength : ByteArray := prog_4_method_3_code
def yX2_strength : MethodName := ⟨RX2, "strength", "(I)I"⟩
abbrev cX2_price : ByteArray := prog_4_method_4_code
def yX2_price : MethodName := ⟨RX2, "price", "(I)I"⟩
abbrev cX2_rough : ByteArray := prog_4_method_5_code
def yX2_rough : MethodName := ⟨RX2, "rough", "(I)I"⟩
abbrev cX2_takes : ByteArray := prog_4_method_6_code
def yX2_takes : MethodName := ⟨RX2, "takes", "(I)I"⟩
abbrev cX2_takenBy : ByteArray := prog_4_method_7_code
def yX2_takenBy : MethodName := ⟨RX2, "takenBy", "(I)I"⟩
abbrev cX2_takenByAny : ByteArray := prog_4_method_8_code
def yX2_takenByAny : MethodName := ⟨RX2, "takenByAny", "()I"⟩
abbrev cX2_addSoap : ByteArray := prog_4_method_9_code
def yX2_addSoap : MethodName := ⟨RX2, "addSoap", "(IIII)V"⟩
abbrev cX2_removeSoap : ByteArray := prog_4_method_10_code
def yX2_removeSoap : MethodName := ⟨RX2, "removeSoap", "(I)V"⟩
abbrev cX2_addDue : ByteArray := prog_4_method_11_code
def yX2_addDue : MethodName := ⟨RX2, "addDue", "(II)V"⟩
abbrev cX2_dueNight : ByteArray := prog_4_method_12_code
def yX2_dueNight : MethodName := ⟨RX2, "dueNight", "(I)I"⟩
abbrev cX2_dueLight : ByteArray := prog_4_method_13_code
def yX2_dueLight : MethodName := ⟨RX2, "dueLight", "(I)I"⟩
abbrev cX2_addLog : ByteArray := prog_4_method_14_code
def yX2_addLog : MethodName := ⟨RX2, "addLog", "(III)V"⟩
abbrev cX2_logSize : ByteArray := prog_4_method_15_code
def yX2_logSize : MethodName := ⟨RX2, "logSize", "()I"⟩
abbrev cX2_logged : ByteArray := prog_4_method_16_code
def yX2_logged : MethodName := ⟨RX2, "logged", "(II)I"⟩
abbrev cX2_draw : ByteArray := prog_4_method_17_code
def yX2_draw : MethodName := ⟨RX2, "draw", "()I"⟩
abbrev cX2_oneNight : ByteArray := prog_4_method_18_code
def yX2_oneNight : MethodName := ⟨RX2, "oneNight", "(LMoonWash$Law;)I"⟩
def RX3 : String := "MoonWash$Law"
def TX3 : u_T := fun k => match k with
  | 0 => ("MoonWash$Law", "lines", "I", false)
  | 1 => ("MoonWash$Law", "kinds", "[I", true)
  | 2 => ("MoonWash$Law", "amounts", "[I", true)
  | 3 => ("MoonWash$Law", "ends", "[I", true)
  | 4 => ("MoonWash$Law", "steps", "[I", true)
  | 5 => ("MoonWash$Law", "stepCount", "I", false)
  | 6 => ("MoonWash$Law", "seen", "[I", true)
  | _ => ("MoonWash$Law", "stack", "[I", true)
def tyX3 : Nat → FieldType := fun k => match k with
  | 0 => .int
  | 1 => .array .int
  | 2 => .array .int
  | 3 => .array .int
  | 4 => .array .int
  | 5 => .int
  | 6 => .array .int
  | _ => .array .int
abbrev wsX30 : List Cond := u_ws RX3 TX3 8
theorem nmX3 : ∀ a, a < 8 → ∀ b, b < 8 → a ≠ b → (TX3 a).2.1 ≠ (TX3 b).2.1 := by decide +kernel
theorem tyX3_ok : ∀ k, k < 8 → parseFieldDescriptor (TX3 k).2.2.1 = some (tyX3 k) := by decide +kernel
abbrev cX3_init : ByteArray := prog_5_method_1_code
def yX3_init : MethodName := ⟨RX3, "<init>", "()V"⟩
abbrev cX3_clear : ByteArray := prog_5_method_2_code
def yX3_clear : MethodName := ⟨RX3, "clear", "()V"⟩
abbrev cX3_addStep : ByteArray := prog_5_method_3_code
def yX3_addStep : MethodName := ⟨RX3, "addStep", "(I)V"⟩
abbrev cX3_addLine : ByteArray := prog_5_method_4_code
def yX3_addLine : MethodName := ⟨RX3, "addLine", "(II)V"⟩
abbrev cX3_become : ByteArray := prog_5_method_5_code
def yX3_become : MethodName := ⟨RX3, "become", "(LMoonWash$Law;)V"⟩
abbrev cX3_whiteOf : ByteArray := prog_5_method_6_code
def yX3_whiteOf : MethodName := ⟨RX3, "whiteOf", "(LMoonWash$Moon;I)I"⟩
abbrev cX3_lightOf : ByteArray := prog_5_method_7_code
def yX3_lightOf : MethodName := ⟨RX3, "lightOf", "(LMoonWash$Moon;I)I"⟩
abbrev cX3_allLight : ByteArray := prog_5_method_8_code
def yX3_allLight : MethodName := ⟨RX3, "allLight", "(LMoonWash$Moon;)I"⟩
abbrev cX3_driesBy : ByteArray := prog_5_method_9_code
def yX3_driesBy : MethodName := ⟨RX3, "driesBy", "(LMoonWash$Moon;I)I"⟩
abbrev cX3_soilsBy : ByteArray := prog_5_method_10_code
def yX3_soilsBy : MethodName := ⟨RX3, "soilsBy", "(LMoonWash$Moon;I)I"⟩
abbrev cX3_sumOf : ByteArray := prog_5_method_11_code
def yX3_sumOf : MethodName := ⟨RX3, "sumOf", "(ILMoonWash$Moon;I)I"⟩
abbrev cX3_look : ByteArray := prog_5_method_12_code
def yX3_look : MethodName := ⟨RX3, "look", "(LMoonWash$Moon;I)V"⟩
abbrev cX3_holds : ByteArray := prog_5_method_13_code
def yX3_holds : MethodName := ⟨RX3, "holds", "(II)Z"⟩
abbrev cX3_joined : ByteArray := prog_5_method_14_code
def yX3_joined : MethodName := ⟨RX3, "joined", "(III)I"⟩
def RX4 : String := "MoonWash$LawText"
def TX4 : u_T := fun k => match k with
  | _ => ("", "", "", false)
def tyX4 : Nat → FieldType := fun k => match k with
  | _ => .int
abbrev wsX40 : List Cond := u_ws RX4 TX4 0
theorem nmX4 : ∀ a, a < 0 → ∀ b, b < 0 → a ≠ b → (TX4 a).2.1 ≠ (TX4 b).2.1 := by decide +kernel
theorem tyX4_ok : ∀ k, k < 0 → parseFieldDescriptor (TX4 k).2.2.1 = some (tyX4 k) := by decide +kernel
abbrev cX4_read : ByteArray := prog_6_method_2_code
def yX4_read : MethodName := ⟨RX4, "read", "(LMoonWash$Words;LMoonWash$Law;)V"⟩
abbrev cX4_readLine : ByteArray := prog_6_method_3_code
def yX4_readLine : MethodName := ⟨RX4, "readLine", "(LMoonWash$Words;LMoonWash$Law;)V"⟩
abbrev cX4_readCondition : ByteArray := prog_6_method_4_code
def yX4_readCondition : MethodName := ⟨RX4, "readCondition", "(LMoonWash$Words;LMoonWash$Law;I)V"⟩
abbrev cX4_readAtom : ByteArray := prog_6_method_5_code
def yX4_readAtom : MethodName := ⟨RX4, "readAtom", "(LMoonWash$Words;LMoonWash$Law;I)V"⟩
abbrev cX4_readSum : ByteArray := prog_6_method_6_code
def yX4_readSum : MethodName := ⟨RX4, "readSum", "(LMoonWash$Words;LMoonWash$Law;)V"⟩
def RX5 : String := "MoonWash$Moon"
def TX5 : u_T := fun k => match k with
  | 0 => ("MoonWash$Moon", "grey", "[I", true)
  | 1 => ("MoonWash$Moon", "thin", "[I", true)
  | 2 => ("MoonWash$Moon", "wet", "[I", true)
  | 3 => ("MoonWash$Moon", "stains", "[I", true)
  | 4 => ("MoonWash$Moon", "pegOf", "[I", true)
  | 5 => ("MoonWash$Moon", "wind", "[I", true)
  | 6 => ("MoonWash$Moon", "hung", "I", false)
  | 7 => ("MoonWash$Moon", "night", "I", false)
  | _ => ("MoonWash$Moon", "damp", "I", false)
def tyX5 : Nat → FieldType := fun k => match k with
  | 0 => .array .int
  | 1 => .array .int
  | 2 => .array .int
  | 3 => .array .int
  | 4 => .array .int
  | 5 => .array .int
  | 6 => .int
  | 7 => .int
  | _ => .int
abbrev wsX50 : List Cond := u_ws RX5 TX5 9
theorem nmX5 : ∀ a, a < 9 → ∀ b, b < 9 → a ≠ b → (TX5 a).2.1 ≠ (TX5 b).2.1 := by decide +kernel
theorem tyX5_ok : ∀ k, k < 9 → parseFieldDescriptor (TX5 k).2.2.1 = some (tyX5 k) := by decide +kernel
abbrev cX5_init : ByteArray := prog_7_method_1_code
def yX5_init : MethodName := ⟨RX5, "<init>", "()V"⟩
abbrev cX5_become : ByteArray := prog_7_method_2_code
def yX5_become : MethodName := ⟨RX5, "become", "(LMoonWash$Moon;)V"⟩
abbrev cX5_isHung : ByteArray := prog_7_method_3_code
def yX5_isHung : MethodName := ⟨RX5, "isHung", "(I)Z"⟩
abbrev cX5_setHung : ByteArray := prog_7_method_4_code
def yX5_setHung : MethodName := ⟨RX5, "setHung", "(IZ)V"⟩
abbrev cX5_partAt : ByteArray := prog_7_method_5_code
def yX5_partAt : MethodName := ⟨RX5, "partAt", "(I)I"⟩
abbrev cX5_wetParts : ByteArray := prog_7_method_6_code
def yX5_wetParts : MethodName := ⟨RX5, "wetParts", "()I"⟩
abbrev cX5_allStains : ByteArray := prog_7_method_7_code
def yX5_allStains : MethodName := ⟨RX5, "allStains", "()I"⟩
abbrev cX5_scrub : ByteArray := prog_7_method_8_code
def yX5_scrub : MethodName := ⟨RX5, "scrub", "(IIII)I"⟩
abbrev cX5_air : ByteArray := prog_7_method_9_code
def yX5_air : MethodName := ⟨RX5, "air", "(LMoonWash$Law;)I"⟩
abbrev cX5_goAhead : ByteArray := prog_7_method_10_code
def yX5_goAhead : MethodName := ⟨RX5, "goAhead", "(LMoonWash$Law;I)V"⟩
abbrev cX5_nightsTillDry : ByteArray := prog_7_method_11_code
def yX5_nightsTillDry : MethodName := ⟨RX5, "nightsTillDry", "(LMoonWash$Law;II)I"⟩
def RX6 : String := "MoonWash$Past"
def TX6 : u_T := fun k => match k with
  | 0 => ("MoonWash$Past", "rows", "[LMoonWash$Laundry;", true)
  | 1 => ("MoonWash$Past", "next", "I", false)
  | _ => ("MoonWash$Past", "size", "I", false)
def tyX6 : Nat → FieldType := fun k => match k with
  | 0 => .array (.object "MoonWash$Laundry")
  | 1 => .int
  | _ => .int
abbrev wsX60 : List Cond := u_ws RX6 TX6 3
theorem nmX6 : ∀ a, a < 3 → ∀ b, b < 3 → a ≠ b → (TX6 a).2.1 ≠ (TX6 b).2.1 := by decide +kernel
theorem tyX6_ok : ∀ k, k < 3 → parseFieldDescriptor (TX6 k).2.2.1 = some (tyX6 k) := by decide +kernel
abbrev cX6_init : ByteArray := prog_8_method_1_code
def yX6_init : MethodName := ⟨RX6, "<init>", "()V"⟩
abbrev cX6_keep : ByteArray := prog_8_method_2_code
def yX6_keep : MethodName := ⟨RX6, "keep", "(LMoonWash$Laundry;)V"⟩
abbrev cX6_giveBack : ByteArray := prog_8_method_3_code
def yX6_giveBack : MethodName := ⟨RX6, "giveBack", "(LMoonWash$Laundry;)Z"⟩
abbrev cX6_forget : ByteArray := prog_8_method_4_code
def yX6_forget : MethodName := ⟨RX6, "forget", "()V"⟩
def RX7 : String := "MoonWash$PegPlan"
def TX7 : u_T := fun k => match k with
  | 0 => ("MoonWash$PegPlan", "nightsOn", "[[I", true)
  | _ => ("MoonWash$PegPlan", "longest", "[I", true)
def tyX7 : Nat → FieldType := fun k => match k with
  | 0 => .array (.array .int)
  | _ => .array .int
abbrev wsX70 : List Cond := u_ws RX7 TX7 2
theorem nmX7 : ∀ a, a < 2 → ∀ b, b < 2 → a ≠ b → (TX7 a).2.1 ≠ (TX7 b).2.1 := by decide +kernel
theorem tyX7_ok : ∀ k, k < 2 → parseFieldDescriptor (TX7 k).2.2.1 = some (tyX7 k) := by decide +kernel
abbrev cX7_init : ByteArray := prog_9_method_1_code
def yX7_init : MethodName := ⟨RX7, "<init>", "()V"⟩
abbrev cX7_tell : ByteArray := prog_9_method_2_code
def yX7_tell : MethodName := ⟨RX7, "tell", "(III)V"⟩
abbrev cX7_fill : ByteArray := prog_9_method_3_code
def yX7_fill : MethodName := ⟨RX7, "fill", "()V"⟩
abbrev cX7_nightsWith : ByteArray := prog_9_method_4_code
def yX7_nightsWith : MethodName := ⟨RX7, "nightsWith", "(III)I"⟩
abbrev cX7_leastNights : ByteArray := prog_9_method_5_code
def yX7_leastNights : MethodName := ⟨RX7, "leastNights", "()I"⟩
abbrev cX7_pegOfPart : ByteArray := prog_9_method_6_code
def yX7_pegOfPart : MethodName := ⟨RX7, "pegOfPart", "(I)I"⟩
abbrev cX7_firstPeg : ByteArray := prog_9_method_7_code
def yX7_firstPeg : MethodName := ⟨RX7, "firstPeg", "(II)I"⟩
def RX8 : String := "MoonWash$Token"
def TX8 : u_T := fun k => match k with
  | _ => ("", "", "", false)
def tyX8 : Nat → FieldType := fun k => match k with
  | _ => .int
abbrev wsX80 : List Cond := u_ws RX8 TX8 0
theorem nmX8 : ∀ a, a < 0 → ∀ b, b < 0 → a ≠ b → (TX8 a).2.1 ≠ (TX8 b).2.1 := by decide +kernel
theorem tyX8_ok : ∀ k, k < 0 → parseFieldDescriptor (TX8 k).2.2.1 = some (tyX8 k) := by decide +kernel
abbrev cX8_written : ByteArray := prog_10_method_4_code
def yX8_written : MethodName := ⟨RX8, "written", "([III)LMoonWash$Token;"⟩
abbrev cX8_isAt : ByteArray := prog_10_method_5_code
def yX8_isAt : MethodName := ⟨RX8, "isAt", "([III)Z"⟩
def RX9 : String := "MoonWash$WaterPlan"
def TX9 : u_T := fun k => match k with
  | 0 => ("MoonWash$WaterPlan", "whites", "[[I", true)
  | 1 => ("MoonWash$WaterPlan", "prices", "[I", true)
  | 2 => ("MoonWash$WaterPlan", "choices", "I", false)
  | _ => ("MoonWash$WaterPlan", "waters", "[[I", true)
def tyX9 : Nat → FieldType := fun k => match k with
  | 0 => .array (.array .int)
  | 1 => .array .int
  | 2 => .int
  | _ => .array (.array .int)
abbrev wsX90 : List Cond := u_ws RX9 TX9 4
theorem nmX9 : ∀ a, a < 4 → ∀ b, b < 4 → a ≠ b → (TX9 a).2.1 ≠ (TX9 b).2.1 := by decide +kernel
theorem tyX9_ok : ∀ k, k < 4 → parseFieldDescriptor (TX9 k).2.2.1 = some (tyX9 k) := by decide +kernel
abbrev cX9_init : ByteArray := prog_11_method_1_code
def yX9_init : MethodName := ⟨RX9, "<init>", "()V"⟩
abbrev cX9_begin : ByteArray := prog_11_method_2_code
def yX9_begin : MethodName := ⟨RX9, "begin", "(LMoonWash$Laundry;)V"⟩
abbrev cX9_tell : ByteArray := prog_11_method_3_code
def yX9_tell : MethodName := ⟨RX9, "tell", "(III)V"⟩
abbrev cX9_fill : ByteArray := prog_11_method_4_code
def yX9_fill : MethodName := ⟨RX9, "fill", "(I)V"⟩
abbrev cX9_waterWith : ByteArray := prog_11_method_5_code
def yX9_waterWith : MethodName := ⟨RX9, "waterWith", "(III)I"⟩
abbrev cX9_leastWater : ByteArray := prog_11_method_6_code
def yX9_leastWater : MethodName := ⟨RX9, "leastWater", "(I)I"⟩
abbrev cX9_soapOf : ByteArray := prog_11_method_7_code
def yX9_soapOf : MethodName := ⟨RX9, "soapOf", "(II)I"⟩
abbrev cX9_firstChoice : ByteArray := prog_11_method_8_code
def yX9_firstChoice : MethodName := ⟨RX9, "firstChoice", "(II)I"⟩
def RX10 : String := "MoonWash$Words"
def TX10 : u_T := fun k => match k with
  | 0 => ("MoonWash$Words", "text", "[I", true)
  | 1 => ("MoonWash$Words", "tokens", "[LMoonWash$Token;", true)
  | 2 => ("MoonWash$Words", "begins", "[I", true)
  | 3 => ("MoonWash$Words", "sizes", "[I", true)
  | 4 => ("MoonWash$Words", "values", "[I", true)
  | 5 => ("MoonWash$Words", "at", "I", false)
  | _ => ("MoonWash$Words", "wrong", "I", false)
def tyX10 : Nat → FieldType := fun k => match k with
  | 0 => .array .int
  | 1 => .array (.object "MoonWash$Token")
  | 2 => .array .int
  | 3 => .array .int
  | 4 => .array .int
  | 5 => .int
  | _ => .int
abbrev wsX100 : List Cond := u_ws RX10 TX10 7
theorem nmX10 : ∀ a, a < 7 → ∀ b, b < 7 → a ≠ b → (TX10 a).2.1 ≠ (TX10 b).2.1 := by decide +kernel
theorem tyX10_ok : ∀ k, k < 7 → parseFieldDescriptor (TX10 k).2.2.1 = some (tyX10 k) := by decide +kernel
abbrev cX10_init : ByteArray := prog_12_method_1_code
def yX10_init : MethodName := ⟨RX10, "<init>", "()V"⟩
abbrev cX10_cut : ByteArray := prog_12_method_2_code
def yX10_cut : MethodName := ⟨RX10, "cut", "([II)V"⟩
abbrev cX10_typeOf : ByteArray := prog_12_method_3_code
def yX10_typeOf : MethodName := ⟨RX10, "typeOf", "(I)I"⟩
abbrev cX10_put : ByteArray := prog_12_method_4_code
def yX10_put : MethodName := ⟨RX10, "put", "(IIII)V"⟩
abbrev cX10_numberAt : ByteArray := prog_12_method_5_code
def yX10_numberAt : MethodName := ⟨RX10, "numberAt", "(II)I"⟩
abbrev cX10_refuse : ByteArray := prog_12_method_6_code
def yX10_refuse : MethodName := ⟨RX10, "refuse", "()V"⟩
abbrev cX10_sees : ByteArray := prog_12_method_7_code
def yX10_sees : MethodName := ⟨RX10, "sees", "(LMoonWash$Token;)Z"⟩
abbrev cX10_takes : ByteArray := prog_12_method_8_code
def yX10_takes : MethodName := ⟨RX10, "takes", "(LMoonWash$Token;)Z"⟩
abbrev cX10_need : ByteArray := prog_12_method_9_code
def yX10_need : MethodName := ⟨RX10, "need", "(LMoonWash$Token;)V"⟩
abbrev cX10_needEnd : ByteArray := prog_12_method_10_code
def yX10_needEnd : MethodName := ⟨RX10, "needEnd", "()V"⟩
abbrev cX10_needNumber : ByteArray := prog_12_method_11_code
def yX10_needNumber : MethodName := ⟨RX10, "needNumber", "(II)I"⟩
abbrev cX10_needTerm : ByteArray := prog_12_method_12_code
def yX10_needTerm : MethodName := ⟨RX10, "needTerm", "()I"⟩
abbrev cX10_needKinds : ByteArray := prog_12_method_13_code
def yX10_needKinds : MethodName := ⟨RX10, "needKinds", "()I"⟩
def RX11 : String := "MoonWash"
def TX11 : u_T := fun k => match k with
  | 0 => ("MoonWash", "tape", "[I", true)
  | 1 => ("MoonWash", "tapeSize", "I", false)
  | 2 => ("MoonWash", "firstWrong", "I", false)
  | 3 => ("MoonWash", "now", "LMoonWash$Laundry;", false)
  | 4 => ("MoonWash", "spare", "LMoonWash$Laundry;", false)
  | 5 => ("MoonWash", "law", "LMoonWash$Law;", false)
  | 6 => ("MoonWash", "spareLaw", "LMoonWash$Law;", false)
  | 7 => ("MoonWash", "words", "LMoonWash$Words;", true)
  | 8 => ("MoonWash", "past", "LMoonWash$Past;", true)
  | 9 => ("MoonWash", "kept", "LMoonWash$Image;", true)
  | 10 => ("MoonWash", "guess", "LMoonWash$Moon;", true)
  | 11 => ("MoonWash", "waterPlan", "LMoonWash$WaterPlan;", true)
  | _ => ("MoonWash", "pegPlan", "LMoonWash$PegPlan;", true)
def tyX11 : Nat → FieldType := fun k => match k with
  | 0 => .array .int
  | 1 => .int
  | 2 => .int
  | 3 => .object "MoonWash$Laundry"
  | 4 => .object "MoonWash$Laundry"
  | 5 => .object "MoonWash$Law"
  | 6 => .object "MoonWash$Law"
  | 7 => .object "MoonWash$Words"
  | 8 => .object "MoonWash$Past"
  | 9 => .object "MoonWash$Image"
  | 10 => .object "MoonWash$Moon"
  | 11 => .object "MoonWash$WaterPlan"
  | _ => .object "MoonWash$PegPlan"
abbrev wsX110 : List Cond := u_ws RX11 TX11 13
theorem nmX11 : ∀ a, a < 13 → ∀ b, b < 13 → a ≠ b → (TX11 a).2.1 ≠ (TX11 b).2.1 := by decide +kernel
theorem tyX11_ok : ∀ k, k < 13 → parseFieldDescriptor (TX11 k).2.2.1 = some (tyX11 k) := by decide +kernel
abbrev cX11_init : ByteArray := prog_1_method_1_code
def yX11_init : MethodName := ⟨RX11, "<init>", "()V"⟩
abbrev cX11_feed : ByteArray := prog_1_method_2_code
def yX11_feed : MethodName := ⟨RX11, "feed", "(IIIII)I"⟩
abbrev cX11_feedNumber : ByteArray := prog_1_method_3_code
def yX11_feedNumber : MethodName := ⟨RX11, "feedNumber", "(I)V"⟩
abbrev cX11_end : ByteArray := prog_1_method_4_code
def yX11_end : MethodName := ⟨RX11, "end", "(I)Z"⟩
abbrev cX11_house : ByteArray := prog_1_method_5_code
def yX11_house : MethodName := ⟨RX11, "house", "()I"⟩
abbrev cX11_law : ByteArray := prog_1_method_6_code
def yX11_law : MethodName := ⟨RX11, "law", "()I"⟩
abbrev cX11_cutTape : ByteArray := prog_1_method_7_code
def yX11_cutTape : MethodName := ⟨RX11, "cutTape", "()V"⟩
abbrev cX11_checkText : ByteArray := prog_1_method_8_code
def yX11_checkText : MethodName := ⟨RX11, "checkText", "()V"⟩
abbrev cX11_fault : ByteArray := prog_1_method_9_code
def yX11_fault : MethodName := ⟨RX11, "fault", "()I"⟩
abbrev cX11_part : ByteArray := prog_1_method_10_code
def yX11_part : MethodName := ⟨RX11, "part", "(II)I"⟩
abbrev cX11_shareOf : ByteArray := prog_1_method_11_code
def yX11_shareOf : MethodName := ⟨RX11, "shareOf", "(I)I"⟩
abbrev cX11_soap : ByteArray := prog_1_method_12_code
def yX11_soap : MethodName := ⟨RX11, "soap", "(II)I"⟩
abbrev cX11_peg : ByteArray := prog_1_method_13_code
def yX11_peg : MethodName := ⟨RX11, "peg", "(IZ)I"⟩
abbrev cX11_due : ByteArray := prog_1_method_14_code
def yX11_due : MethodName := ⟨RX11, "due", "(IZ)I"⟩
abbrev cX11_checkPart : ByteArray := prog_1_method_15_code
def yX11_checkPart : MethodName := ⟨RX11, "checkPart", "(I)V"⟩
abbrev cX11_checkSoap : ByteArray := prog_1_method_16_code
def yX11_checkSoap : MethodName := ⟨RX11, "checkSoap", "(I)V"⟩
abbrev cX11_checkNumber : ByteArray := prog_1_method_17_code
def yX11_checkNumber : MethodName := ⟨RX11, "checkNumber", "(III)V"⟩
abbrev cX11_wash : ByteArray := prog_1_method_18_code
def yX11_wash : MethodName := ⟨RX11, "wash", "(II)I"⟩
abbrev cX11_hang : ByteArray := prog_1_method_19_code
def yX11_hang : MethodName := ⟨RX11, "hang", "(IZ)Z"⟩
abbrev cX11_darn : ByteArray := prog_1_method_20_code
def yX11_darn : MethodName := ⟨RX11, "darn", "(I)I"⟩
abbrev cX11_move : ByteArray := prog_1_method_21_code
def yX11_move : MethodName := ⟨RX11, "move", "(II)I"⟩
abbrev cX11_drop : ByteArray := prog_1_method_22_code
def yX11_drop : MethodName := ⟨RX11, "drop", "(I)I"⟩
abbrev cX11_nights : ByteArray := prog_1_method_23_code
def yX11_nights : MethodName := ⟨RX11, "nights", "(I)I"⟩
abbrev cX11_seed : ByteArray := prog_1_method_24_code
def yX11_seed : MethodName := ⟨RX11, "seed", "(I)I"⟩
abbrev cX11_undo : ByteArray := prog_1_method_25_code
def yX11_undo : MethodName := ⟨RX11, "undo", "()Z"⟩
abbrev cX11_image : ByteArray := prog_1_method_26_code
def yX11_image : MethodName := ⟨RX11, "image", "()V"⟩
abbrev cX11_back : ByteArray := prog_1_method_27_code
def yX11_back : MethodName := ⟨RX11, "back", "()Z"⟩
abbrev cX11_shines : ByteArray := prog_1_method_28_code
def yX11_shines : MethodName := ⟨RX11, "shines", "()I"⟩
abbrev cX11_light : ByteArray := prog_1_method_29_code
def yX11_light : MethodName := ⟨RX11, "light", "()I"⟩
abbrev cX11_row : ByteArray := prog_1_method_30_code
def yX11_row : MethodName := ⟨RX11, "row", "()I"⟩
abbrev cX11_darkest : ByteArray := prog_1_method_31_code
def yX11_darkest : MethodName := ⟨RX11, "darkest", "()I"⟩
abbrev cX11_halves : ByteArray := prog_1_method_32_code
def yX11_halves : MethodName := ⟨RX11, "halves", "()I"⟩
abbrev cX11_like : ByteArray := prog_1_method_33_code
def yX11_like : MethodName := ⟨RX11, "like", "()I"⟩
abbrev cX11_would : ByteArray := prog_1_method_34_code
def yX11_would : MethodName := ⟨RX11, "would", "(II)I"⟩
abbrev cX11_whiteIfWashed : ByteArray := prog_1_method_35_code
def yX11_whiteIfWashed : MethodName := ⟨RX11, "whiteIfWashed", "(II)I"⟩
abbrev cX11_best : ByteArray := prog_1_method_36_code
def yX11_best : MethodName := ⟨RX11, "best", "(I)I"⟩
abbrev cX11_least : ByteArray := prog_1_method_37_code
def yX11_least : MethodName := ⟨RX11, "least", "(II)I"⟩
abbrev cX11_soaps : ByteArray := prog_1_method_38_code
def yX11_soaps : MethodName := ⟨RX11, "soaps", "(I)I"⟩
abbrev cX11_washes : ByteArray := prog_1_method_39_code
def yX11_washes : MethodName := ⟨RX11, "washes", "(II)I"⟩
abbrev cX11_wears : ByteArray := prog_1_method_40_code
def yX11_wears : MethodName := ⟨RX11, "wears", "(II)I"⟩
abbrev cX11_stained : ByteArray := prog_1_method_41_code
def yX11_stained : MethodName := ⟨RX11, "stained", "(Z)I"⟩
abbrev cX11_tries : ByteArray := prog_1_method_42_code
def yX11_tries : MethodName := ⟨RX11, "tries", "()I"⟩
abbrev cX11_setsThatFit : ByteArray := prog_1_method_43_code
def yX11_setsThatFit : MethodName := ⟨RX11, "setsThatFit", "()I"⟩
abbrev cX11_setsLeftBy : ByteArray := prog_1_method_44_code
def yX11_setsLeftBy : MethodName := ⟨RX11, "setsLeftBy", "(I)I"⟩
abbrev cX11_soonest : ByteArray := prog_1_method_45_code
def yX11_soonest : MethodName := ⟨RX11, "soonest", "(II)I"⟩
abbrev cX11_nightsOnPeg : ByteArray := prog_1_method_46_code
def yX11_nightsOnPeg : MethodName := ⟨RX11, "nightsOnPeg", "(III)I"⟩
abbrev cX11_dried : ByteArray := prog_1_method_47_code
def yX11_dried : MethodName := ⟨RX11, "dried", "(II)I"⟩
abbrev cX11_ahead : ByteArray := prog_1_method_48_code
def yX11_ahead : MethodName := ⟨RX11, "ahead", "(IIII)I"⟩
abbrev cX11_tide : ByteArray := prog_1_method_49_code
def yX11_tide : MethodName := ⟨RX11, "tide", "(II)I"⟩
abbrev cX11_late : ByteArray := prog_1_method_50_code
def yX11_late : MethodName := ⟨RX11, "late", "(I)I"⟩
abbrev cX11_duesNotMet : ByteArray := prog_1_method_51_code
def yX11_duesNotMet : MethodName := ⟨RX11, "duesNotMet", "()I"⟩
abbrev cX11_enough : ByteArray := prog_1_method_52_code
def yX11_enough : MethodName := ⟨RX11, "enough", "(I)I"⟩
abbrev cX11_trial : ByteArray := prog_1_method_53_code
def yX11_trial : MethodName := ⟨RX11, "trial", "(IZ)I"⟩
abbrev cX11_span : ByteArray := prog_1_method_54_code
def yX11_span : MethodName := ⟨RX11, "span", "(IZ)I"⟩
abbrev cX11_tryNights : ByteArray := prog_1_method_55_code
def yX11_tryNights : MethodName := ⟨RX11, "tryNights", "(II)V"⟩
abbrev cX11_watch : ByteArray := prog_1_method_56_code
def yX11_watch : MethodName := ⟨RX11, "watch", "()I"⟩
abbrev cX11_led : ByteArray := prog_1_method_57_code
def yX11_led : MethodName := ⟨RX11, "led", "(IZ)I"⟩
abbrev cX11_log : ByteArray := prog_1_method_58_code
def yX11_log : MethodName := ⟨RX11, "log", "(II)I"⟩
abbrev cX11_count : ByteArray := prog_1_method_59_code
def yX11_count : MethodName := ⟨RX11, "count", "(I)I"⟩
def RX12 : String := "MoonWashModel"
def TX12 : u_T := fun k => match k with
  | 0 => ("MoonWashModel", "thrown", "I", false)
  | 1 => ("MoonWashModel", "m", "[I", true)
  | 2 => ("MoonWashModel", "kept", "[I", true)
  | 3 => ("MoonWashModel", "other", "[I", true)
  | 4 => ("MoonWashModel", "hasImage", "Z", false)
  | 5 => ("MoonWashModel", "aside", "[I", true)
  | 6 => ("MoonWashModel", "acts", "[I", true)
  | 7 => ("MoonWashModel", "acted", "I", false)
  | 8 => ("MoonWashModel", "tape", "[I", true)
  | 9 => ("MoonWashModel", "taped", "I", false)
  | 10 => ("MoonWashModel", "base", "I", false)
  | 11 => ("MoonWashModel", "end", "I", false)
  | 12 => ("MoonWashModel", "at", "I", false)
  | 13 => ("MoonWashModel", "fault", "I", false)
  | 14 => ("MoonWashModel", "deep", "I", false)
  | 15 => ("MoonWashModel", "fact", "[I", true)
  | 16 => ("MoonWashModel", "isFull", "Z", false)
  | 17 => ("MoonWashModel", "isHung", "Z", false)
  | 18 => ("MoonWashModel", "shine", "I", false)
  | 19 => ("MoonWashModel", "dry", "I", false)
  | 20 => ("MoonWashModel", "soil", "I", false)
  | 21 => ("MoonWashModel", "whites", "[I", true)
  | 22 => ("MoonWashModel", "least", "[I", true)
  | 23 => ("MoonWashModel", "nights", "[I", true)
  | 24 => ("MoonWashModel", "fits", "[Z", true)
  | _ => ("MoonWashModel", "lights", "[I", true)
def tyX12 : Nat → FieldType := fun k => match k with
  | 0 => .int
  | 1 => .array .int
  | 2 => .array .int
  | 3 => .array .int
  | 4 => .boolean
  | 5 => .array .int
  | 6 => .array .int
  | 7 => .int
  | 8 => .array .int
  | 9 => .int
  | 10 => .int
  | 11 => .int
  | 12 => .int
  | 13 => .int
  | 14 => .int
  | 15 => .array .int
  | 16 => .boolean
  | 17 => .boolean
  | 18 => .int
  | 19 => .int
  | 20 => .int
  | 21 => .array .int
  | 22 => .array .int
  | 23 => .array .int
  | 24 => .array .boolean
  | _ => .array .int
abbrev wsX120 : List Cond := u_ws RX12 TX12 26
theorem nmX12 : ∀ a, a < 26 → ∀ b, b < 26 → a ≠ b → (TX12 a).2.1 ≠ (TX12 b).2.1 := by decide +kernel
theorem tyX12_ok : ∀ k, k < 26 → parseFieldDescriptor (TX12 k).2.2.1 = some (tyX12 k) := by decide +kernel
abbrev cX12_init : ByteArray := prog_14_method_1_code
def yX12_init : MethodName := ⟨RX12, "<init>", "()V"⟩
abbrev cX12_thrown : ByteArray := prog_14_method_2_code
def yX12_thrown : MethodName := ⟨RX12, "thrown", "()I"⟩
abbrev cX12_isIn : ByteArray := prog_14_method_3_code
def yX12_isIn : MethodName := ⟨RX12, "isIn", "(III)Z"⟩
abbrev cX12_lesser : ByteArray := prog_14_method_4_code
def yX12_lesser : MethodName := ⟨RX12, "lesser", "(II)I"⟩
abbrev cX12_greater : ByteArray := prog_14_method_5_code
def yX12_greater : MethodName := ⟨RX12, "greater", "(II)I"⟩
abbrev cX12_isOf : ByteArray := prog_14_method_6_code
def yX12_isOf : MethodName := ⟨RX12, "isOf", "(II)Z"⟩
abbrev cX12_bits : ByteArray := prog_14_method_7_code
def yX12_bits : MethodName := ⟨RX12, "bits", "(I)I"⟩
abbrev cX12_of : ByteArray := prog_14_method_8_code
def yX12_of : MethodName := ⟨RX12, "of", "(II)I"⟩
abbrev cX12_has : ByteArray := prog_14_method_9_code
def yX12_has : MethodName := ⟨RX12, "has", "(III)V"⟩
abbrev cX12_ofSoap : ByteArray := prog_14_method_10_code
def yX12_ofSoap : MethodName := ⟨RX12, "ofSoap", "(II)I"⟩
abbrev cX12_isPart : ByteArray := prog_14_method_11_code
def yX12_isPart : MethodName := ⟨RX12, "isPart", "(I)Z"⟩
abbrev cX12_isSoap : ByteArray := prog_14_method_12_code
def yX12_isSoap : MethodName := ⟨RX12, "isSoap", "(I)Z"⟩
abbrev cX12_partOn : ByteArray := prog_14_method_13_code
def yX12_partOn : MethodName := ⟨RX12, "partOn", "(I)I"⟩
abbrev cX12_feed : ByteArray := prog_14_method_14_code
def yX12_feed : MethodName := ⟨RX12, "feed", "(IIIII)I"⟩
abbrev cX12_end : ByteArray := prog_14_method_15_code
def yX12_end : MethodName := ⟨RX12, "end", "(I)Z"⟩
abbrev cX12_letter : ByteArray := prog_14_method_16_code
def yX12_letter : MethodName := ⟨RX12, "letter", "(I)I"⟩
abbrev cX12_skip : ByteArray := prog_14_method_17_code
def yX12_skip : MethodName := ⟨RX12, "skip", "()V"⟩
abbrev cX12_isSign : ByteArray := prog_14_method_18_code
def yX12_isSign : MethodName := ⟨RX12, "isSign", "(I)Z"⟩
abbrev cX12_has_ : ByteArray := prog_14_method_19_code
def yX12_has_ : MethodName := ⟨RX12, "has", "(Ljava/lang/String;)Z"⟩
abbrev cX12_wrong : ByteArray := prog_14_method_20_code
def yX12_wrong : MethodName := ⟨RX12, "wrong", "(I)V"⟩
abbrev cX12_place : ByteArray := prog_14_method_21_code
def yX12_place : MethodName := ⟨RX12, "place", "()I"⟩
abbrev cX12_figures : ByteArray := prog_14_method_22_code
def yX12_figures : MethodName := ⟨RX12, "figures", "(II)I"⟩
abbrev cX12_after : ByteArray := prog_14_method_23_code
def yX12_after : MethodName := ⟨RX12, "after", "(Ljava/lang/String;II)I"⟩
abbrev cX12_kinds : ByteArray := prog_14_method_24_code
def yX12_kinds : MethodName := ⟨RX12, "kinds", "(Ljava/lang/String;)I"⟩
abbrev cX12_soapLine : ByteArray := prog_14_method_25_code
def yX12_soapLine : MethodName := ⟨RX12, "soapLine", "(I)V"⟩
abbrev cX12_partLine : ByteArray := prog_14_method_26_code
def yX12_partLine : MethodName := ⟨RX12, "partLine", "()V"⟩
abbrev cX12_dueLine : ByteArray := prog_14_method_27_code
def yX12_dueLine : MethodName := ⟨RX12, "dueLine", "(I)V"⟩
abbrev cX12_tells : ByteArray := prog_14_method_28_code
def yX12_tells : MethodName := ⟨RX12, "tells", "(II)V"⟩
abbrev cX12_houseLine : ByteArray := prog_14_method_29_code
def yX12_houseLine : MethodName := ⟨RX12, "houseLine", "()V"⟩
abbrev cX12_begins : ByteArray := prog_14_method_30_code
def yX12_begins : MethodName := ⟨RX12, "begins", "()V"⟩
abbrev cX12_read : ByteArray := prog_14_method_31_code
def yX12_read : MethodName := ⟨RX12, "read", "(Z)I"⟩
abbrev cX12_putsAside : ByteArray := prog_14_method_32_code
def yX12_putsAside : MethodName := ⟨RX12, "putsAside", "()V"⟩
abbrev cX12_comesBack : ByteArray := prog_14_method_33_code
def yX12_comesBack : MethodName := ⟨RX12, "comesBack", "()V"⟩
abbrev cX12_house : ByteArray := prog_14_method_34_code
def yX12_house : MethodName := ⟨RX12, "house", "()I"⟩
abbrev cX12_part : ByteArray := prog_14_method_35_code
def yX12_part : MethodName := ⟨RX12, "part", "()I"⟩
abbrev cX12_sum : ByteArray := prog_14_method_36_code
def yX12_sum : MethodName := ⟨RX12, "sum", "()I"⟩
abbrev cX12_plain : ByteArray := prog_14_method_37_code
def yX12_plain : MethodName := ⟨RX12, "plain", "()Z"⟩
abbrev cX12_atom : ByteArray := prog_14_method_38_code
def yX12_atom : MethodName := ⟨RX12, "atom", "()Z"⟩
abbrev cX12_every : ByteArray := prog_14_method_39_code
def yX12_every : MethodName := ⟨RX12, "every", "()Z"⟩
abbrev cX12_some : ByteArray := prog_14_method_40_code
def yX12_some : MethodName := ⟨RX12, "some", "()Z"⟩
abbrev cX12_lawLine : ByteArray := prog_14_method_41_code
def yX12_lawLine : MethodName := ⟨RX12, "lawLine", "()V"⟩
abbrev cX12_law : ByteArray := prog_14_method_42_code
def yX12_law : MethodName := ⟨RX12, "law", "()I"⟩
abbrev cX12_fault : ByteArray := prog_14_method_43_code
def yX12_fault : MethodName := ⟨RX12, "fault", "()I"⟩
abbrev cX12_asks : ByteArray := prog_14_method_44_code
def yX12_asks : MethodName := ⟨RX12, "asks", "(I)V"⟩
abbrev cX12_whiteOf : ByteArray := prog_14_method_45_code
def yX12_whiteOf : MethodName := ⟨RX12, "whiteOf", "(I)I"⟩
abbrev cX12_lightOf : ByteArray := prog_14_method_46_code
def yX12_lightOf : MethodName := ⟨RX12, "lightOf", "(I)I"⟩
abbrev cX12_lightOfAll : ByteArray := prog_14_method_47_code
def yX12_lightOfAll : MethodName := ⟨RX12, "lightOfAll", "()I"⟩
abbrev cX12_driesBy : ByteArray := prog_14_method_48_code
def yX12_driesBy : MethodName := ⟨RX12, "driesBy", "(I)I"⟩
abbrev cX12_draw : ByteArray := prog_14_method_49_code
def yX12_draw : MethodName := ⟨RX12, "draw", "(I)I"⟩
abbrev cX12_dries : ByteArray := prog_14_method_50_code
def yX12_dries : MethodName := ⟨RX12, "dries", "(I)Z"⟩
abbrev cX12_driesAll : ByteArray := prog_14_method_51_code
def yX12_driesAll : MethodName := ⟨RX12, "driesAll", "()I"⟩
abbrev cX12_passes : ByteArray := prog_14_method_52_code
def yX12_passes : MethodName := ⟨RX12, "passes", "()V"⟩
abbrev cX12_night : ByteArray := prog_14_method_53_code
def yX12_night : MethodName := ⟨RX12, "night", "()I"⟩
abbrev cX12_goes : ByteArray := prog_14_method_54_code
def yX12_goes : MethodName := ⟨RX12, "goes", "(I)I"⟩
abbrev cX12_ahead : ByteArray := prog_14_method_55_code
def yX12_ahead : MethodName := ⟨RX12, "ahead", "(I)V"⟩
abbrev cX12_never : ByteArray := prog_14_method_56_code
def yX12_never : MethodName := ⟨RX12, "never", "(I)I"⟩
abbrev cX12_share : ByteArray := prog_14_method_57_code
def yX12_share : MethodName := ⟨RX12, "share", "(I)I"⟩
abbrev cX12_part_ : ByteArray := prog_14_method_58_code
def yX12_part_ : MethodName := ⟨RX12, "part", "(II)I"⟩
abbrev cX12_soap : ByteArray := prog_14_method_59_code
def yX12_soap : MethodName := ⟨RX12, "soap", "(II)I"⟩
abbrev cX12_peg : ByteArray := prog_14_method_60_code
def yX12_peg : MethodName := ⟨RX12, "peg", "(IZ)I"⟩
abbrev cX12_due : ByteArray := prog_14_method_61_code
def yX12_due : MethodName := ⟨RX12, "due", "(IZ)I"⟩
abbrev cX12_remembers : ByteArray := prog_14_method_62_code
def yX12_remembers : MethodName := ⟨RX12, "remembers", "()V"⟩
abbrev cX12_cleans : ByteArray := prog_14_method_63_code
def yX12_cleans : MethodName := ⟨RX12, "cleans", "(II)V"⟩
abbrev cX12_wash : ByteArray := prog_14_method_64_code
def yX12_wash : MethodName := ⟨RX12, "wash", "(II)I"⟩
abbrev cX12_hang : ByteArray := prog_14_method_65_code
def yX12_hang : MethodName := ⟨RX12, "hang", "(IZ)Z"⟩
abbrev cX12_darn : ByteArray := prog_14_method_66_code
def yX12_darn : MethodName := ⟨RX12, "darn", "(I)I"⟩
abbrev cX12_move : ByteArray := prog_14_method_67_code
def yX12_move : MethodName := ⟨RX12, "move", "(II)I"⟩
abbrev cX12_drop : ByteArray := prog_14_method_68_code
def yX12_drop : MethodName := ⟨RX12, "drop", "(I)I"⟩
abbrev cX12_nights : ByteArray := prog_14_method_69_code
def yX12_nights : MethodName := ⟨RX12, "nights", "(I)I"⟩
abbrev cX12_shining : ByteArray := prog_14_method_70_code
def yX12_shining : MethodName := ⟨RX12, "shining", "()I"⟩
abbrev cX12_shines : ByteArray := prog_14_method_71_code
def yX12_shines : MethodName := ⟨RX12, "shines", "()I"⟩
abbrev cX12_light : ByteArray := prog_14_method_72_code
def yX12_light : MethodName := ⟨RX12, "light", "()I"⟩
abbrev cX12_wouldBe : ByteArray := prog_14_method_73_code
def yX12_wouldBe : MethodName := ⟨RX12, "wouldBe", "(II)I"⟩
abbrev cX12_would : ByteArray := prog_14_method_74_code
def yX12_would : MethodName := ⟨RX12, "would", "(II)I"⟩
abbrev cX12_best : ByteArray := prog_14_method_75_code
def yX12_best : MethodName := ⟨RX12, "best", "(I)I"⟩
abbrev cX12_from : ByteArray := prog_14_method_76_code
def yX12_from : MethodName := ⟨RX12, "from", "(II)I"⟩
abbrev cX12_white : ByteArray := prog_14_method_77_code
def yX12_white : MethodName := ⟨RX12, "white", "(II)I"⟩
abbrev cX12_costs : ByteArray := prog_14_method_78_code
def yX12_costs : MethodName := ⟨RX12, "costs", "(I)I"⟩
abbrev cX12_least : ByteArray := prog_14_method_79_code
def yX12_least : MethodName := ⟨RX12, "least", "(II)I"⟩
abbrev cX12_soaps : ByteArray := prog_14_method_80_code
def yX12_soaps : MethodName := ⟨RX12, "soaps", "(I)I"⟩
abbrev cX12_rounded : ByteArray := prog_14_method_81_code
def yX12_rounded : MethodName := ⟨RX12, "rounded", "(II)I"⟩
abbrev cX12_washes : ByteArray := prog_14_method_82_code
def yX12_washes : MethodName := ⟨RX12, "washes", "(II)I"⟩
abbrev cX12_wears : ByteArray := prog_14_method_83_code
def yX12_wears : MethodName := ⟨RX12, "wears", "(II)I"⟩
abbrev cX12_drySoon : ByteArray := prog_14_method_84_code
def yX12_drySoon : MethodName := ⟨RX12, "drySoon", "(II)I"⟩
abbrev cX12_dried : ByteArray := prog_14_method_85_code
def yX12_dried : MethodName := ⟨RX12, "dried", "(II)I"⟩
abbrev cX12_find : ByteArray := prog_14_method_86_code
def yX12_find : MethodName := ⟨RX12, "find", "(III)Z"⟩
abbrev cX12_soonest : ByteArray := prog_14_method_87_code
def yX12_soonest : MethodName := ⟨RX12, "soonest", "(II)I"⟩
abbrev cX12_ahead_ : ByteArray := prog_14_method_88_code
def yX12_ahead_ : MethodName := ⟨RX12, "ahead", "(IIII)I"⟩
abbrev cX12_tide : ByteArray := prog_14_method_89_code
def yX12_tide : MethodName := ⟨RX12, "tide", "(II)I"⟩
abbrev cX12_late : ByteArray := prog_14_method_90_code
def yX12_late : MethodName := ⟨RX12, "late", "(I)I"⟩
abbrev cX12_enough : ByteArray := prog_14_method_91_code
def yX12_enough : MethodName := ⟨RX12, "enough", "(I)I"⟩
abbrev cX12_told : ByteArray := prog_14_method_92_code
def yX12_told : MethodName := ⟨RX12, "told", "()I"⟩
abbrev cX12_stained : ByteArray := prog_14_method_93_code
def yX12_stained : MethodName := ⟨RX12, "stained", "(Z)I"⟩
abbrev cX12_tries : ByteArray := prog_14_method_94_code
def yX12_tries : MethodName := ⟨RX12, "tries", "()I"⟩
abbrev cX12_watch : ByteArray := prog_14_method_95_code
def yX12_watch : MethodName := ⟨RX12, "watch", "()I"⟩
abbrev cX12_row : ByteArray := prog_14_method_96_code
def yX12_row : MethodName := ⟨RX12, "row", "()I"⟩
abbrev cX12_looks : ByteArray := prog_14_method_97_code
def yX12_looks : MethodName := ⟨RX12, "looks", "()V"⟩
abbrev cX12_darkest : ByteArray := prog_14_method_98_code
def yX12_darkest : MethodName := ⟨RX12, "darkest", "()I"⟩
abbrev cX12_halves : ByteArray := prog_14_method_99_code
def yX12_halves : MethodName := ⟨RX12, "halves", "()I"⟩
abbrev cX12_like : ByteArray := prog_14_method_100_code
def yX12_like : MethodName := ⟨RX12, "like", "()I"⟩
abbrev cX12_stains : ByteArray := prog_14_method_101_code
def yX12_stains : MethodName := ⟨RX12, "stains", "()I"⟩
abbrev cX12_trial : ByteArray := prog_14_method_102_code
def yX12_trial : MethodName := ⟨RX12, "trial", "(IZ)I"⟩
abbrev cX12_span : ByteArray := prog_14_method_103_code
def yX12_span : MethodName := ⟨RX12, "span", "(IZ)I"⟩
abbrev cX12_logged : ByteArray := prog_14_method_104_code
def yX12_logged : MethodName := ⟨RX12, "logged", "(II)I"⟩
abbrev cX12_led : ByteArray := prog_14_method_105_code
def yX12_led : MethodName := ⟨RX12, "led", "(IZ)I"⟩
abbrev cX12_log : ByteArray := prog_14_method_106_code
def yX12_log : MethodName := ⟨RX12, "log", "(II)I"⟩
abbrev cX12_seed : ByteArray := prog_14_method_107_code
def yX12_seed : MethodName := ⟨RX12, "seed", "(I)I"⟩
abbrev cX12_undo : ByteArray := prog_14_method_108_code
def yX12_undo : MethodName := ⟨RX12, "undo", "()Z"⟩
abbrev cX12_image : ByteArray := prog_14_method_109_code
def yX12_image : MethodName := ⟨RX12, "image", "()V"⟩
abbrev cX12_back : ByteArray := prog_14_method_110_code
def yX12_back : MethodName := ⟨RX12, "back", "()Z"⟩
abbrev cX12_such : ByteArray := prog_14_method_111_code
def yX12_such : MethodName := ⟨RX12, "such", "(I)I"⟩
abbrev cX12_count : ByteArray := prog_14_method_112_code
def yX12_count : MethodName := ⟨RX12, "count", "(I)I"⟩
def RJx145de : String := "java/io/Serializable"
def TJx145de : u_T := fun k => match k with
  | _ => ("", "", "", false)
def RJx9f9b0 : String := "java/lang/CharSequence"
def TJx9f9b0 : u_T := fun k => match k with
  | _ => ("", "", "", false)
def RJxb160c : String := "java/lang/Comparable"
def TJxb160c : u_T := fun k => match k with
  | _ => ("", "", "", false)
def RJx29ce0 : String := "java/lang/Enum"
def TJx29ce0 : u_T := fun k => match k with
  | _ => ("", "", "", false)
def RJ6 : String := "java/lang/Integer"
def TJ6 : u_T := fun k => match k with
  | _ => ("", "", "", false)
abbrev cJ6_bitCount_0f7a4 : ByteArray := prog_23_method_49_code
def yJ6_bitCount_0f7a4 : MethodName := ⟨RJ6, "bitCount", "(I)I"⟩
def RJ9 : String := "java/lang/Math"
def TJ9 : u_T := fun k => match k with
  | _ => ("", "", "", false)
abbrev cJ9_abs_0f7a4 : ByteArray := prog_24_method_59_code
def yJ9_abs_0f7a4 : MethodName := ⟨RJ9, "abs", "(I)I"⟩
abbrev cJ9_max_7cf53 : ByteArray := prog_24_method_65_code
def yJ9_max_7cf53 : MethodName := ⟨RJ9, "max", "(II)I"⟩
abbrev cJ9_min_7cf53 : ByteArray := prog_24_method_69_code
def yJ9_min_7cf53 : MethodName := ⟨RJ9, "min", "(II)I"⟩
def RJ0 : String := "java/lang/String"
def TJ0 : u_T := fun k => match k with
  | _ => ("", "", "", false)
abbrev cJ0_length_8abf5 : ByteArray := prog_26_method_54_code
def yJ0_length_8abf5 : MethodName := ⟨RJ0, "length", "()I"⟩
abbrev cJ0_charAt_5068e : ByteArray := prog_26_method_56_code
def yJ0_charAt_5068e : MethodName := ⟨RJ0, "charAt", "(I)C"⟩
abbrev cJ0_coder_7d493 : ByteArray := prog_26_method_152_code
def yJ0_coder_7d493 : MethodName := ⟨RJ0, "coder", "()B"⟩
abbrev cJ0_isLatin1_aae02 : ByteArray := prog_26_method_154_code
def yJ0_isLatin1_aae02 : MethodName := ⟨RJ0, "isLatin1", "()Z"⟩
abbrev cJ0_checkIndex_df160 : ByteArray := prog_26_method_155_code
def yJ0_checkIndex_df160 : MethodName := ⟨RJ0, "checkIndex", "(II)V"⟩
def RJ1 : String := "java/lang/StringLatin1"
def TJ1 : u_T := fun k => match k with
  | _ => ("", "", "", false)
abbrev cJ1_charAt_3b067 : ByteArray := prog_27_method_2_code
def yJ1_charAt_3b067 : MethodName := ⟨RJ1, "charAt", "([BI)C"⟩
def RJ2 : String := "java/lang/StringUTF16"
def TJ2 : u_T := fun k => match k with
  | _ => ("", "", "", false)
abbrev cJ2_getChar_3b067 : ByteArray := prog_28_method_5_code
def yJ2_getChar_3b067 : MethodName := ⟨RJ2, "getChar", "([BI)C"⟩
abbrev cJ2_length_9d52b : ByteArray := prog_28_method_6_code
def yJ2_length_9d52b : MethodName := ⟨RJ2, "length", "([B)I"⟩
abbrev cJ2_charAt_3b067 : ByteArray := prog_28_method_83_code
def yJ2_charAt_3b067 : MethodName := ⟨RJ2, "charAt", "([BI)C"⟩
abbrev cJ2_checkIndex_2214a : ByteArray := prog_28_method_91_code
def yJ2_checkIndex_2214a : MethodName := ⟨RJ2, "checkIndex", "(I[B)V"⟩
def RJ10 : String := "java/lang/System"
def TJ10 : u_T := fun k => match k with
  | _ => ("", "", "", false)
def RJxfd54e : String := "java/lang/constant/Constable"
def TJxfd54e : u_T := fun k => match k with
  | _ => ("", "", "", false)
def RJx3cf43 : String := "java/lang/constant/ConstantDesc"
def TJx3cf43 : u_T := fun k => match k with
  | _ => ("", "", "", false)
def RJ3 : String := "jdk/internal/util/Preconditions"
def TJ3 : u_T := fun k => match k with
  | _ => ("", "", "", false)
abbrev cJ3_checkIndex_8e157 : ByteArray := prog_35_method_11_code
def yJ3_checkIndex_8e157 : MethodName := ⟨RJ3, "checkIndex", "(IILjava/util/function/BiFunction;)I"⟩
def RL : String := "MoonWashLaw"
abbrev cL_house : ByteArray := method_3_code
def yL_house : MethodName := ⟨RL, "house", "(LMoonWash;[J)I"⟩
abbrev cL_law : ByteArray := method_4_code
def yL_law : MethodName := ⟨RL, "law", "(LMoonWash;[J)I"⟩
abbrev cL_part : ByteArray := method_5_code
def yL_part : MethodName := ⟨RL, "part", "(LMoonWash;II[J)I"⟩
abbrev cL_soap : ByteArray := method_6_code
def yL_soap : MethodName := ⟨RL, "soap", "(LMoonWash;II[J)I"⟩
abbrev cL_peg : ByteArray := method_7_code
def yL_peg : MethodName := ⟨RL, "peg", "(LMoonWash;IZ[J)I"⟩
abbrev cL_due : ByteArray := method_8_code
def yL_due : MethodName := ⟨RL, "due", "(LMoonWash;IZ[J)I"⟩
abbrev cL_wash : ByteArray := method_9_code
def yL_wash : MethodName := ⟨RL, "wash", "(LMoonWash;II[J)I"⟩
abbrev cL_hang : ByteArray := method_10_code
def yL_hang : MethodName := ⟨RL, "hang", "(LMoonWash;IZ[J)I"⟩
abbrev cL_darn : ByteArray := method_11_code
def yL_darn : MethodName := ⟨RL, "darn", "(LMoonWash;I[J)I"⟩
abbrev cL_move : ByteArray := method_12_code
def yL_move : MethodName := ⟨RL, "move", "(LMoonWash;II[J)I"⟩
abbrev cL_drop : ByteArray := method_13_code
def yL_drop : MethodName := ⟨RL, "drop", "(LMoonWash;I[J)I"⟩
abbrev cL_nights : ByteArray := method_14_code
def yL_nights : MethodName := ⟨RL, "nights", "(LMoonWash;I[J)I"⟩
abbrev cL_would : ByteArray := method_15_code
def yL_would : MethodName := ⟨RL, "would", "(LMoonWash;II[J)I"⟩
abbrev cL_best : ByteArray := method_16_code
def yL_best : MethodName := ⟨RL, "best", "(LMoonWash;I[J)I"⟩
abbrev cL_least : ByteArray := method_17_code
def yL_least : MethodName := ⟨RL, "least", "(LMoonWash;II[J)I"⟩
abbrev cL_soaps : ByteArray := method_18_code
def yL_soaps : MethodName := ⟨RL, "soaps", "(LMoonWash;I[J)I"⟩
abbrev cL_washes : ByteArray := method_19_code
def yL_washes : MethodName := ⟨RL, "washes", "(LMoonWash;II[J)I"⟩
abbrev cL_soonest : ByteArray := method_20_code
def yL_soonest : MethodName := ⟨RL, "soonest", "(LMoonWash;II[J)I"⟩
abbrev cL_dried : ByteArray := method_21_code
def yL_dried : MethodName := ⟨RL, "dried", "(LMoonWash;II[J)I"⟩
abbrev cL_ahead : ByteArray := method_22_code
def yL_ahead : MethodName := ⟨RL, "ahead", "(LMoonWash;IIII[J)I"⟩
abbrev cL_stained : ByteArray := method_23_code
def yL_stained : MethodName := ⟨RL, "stained", "(LMoonWash;Z[J)I"⟩
abbrev cL_tries : ByteArray := method_24_code
def yL_tries : MethodName := ⟨RL, "tries", "(LMoonWash;[J)I"⟩
abbrev cL_tide : ByteArray := method_25_code
def yL_tide : MethodName := ⟨RL, "tide", "(LMoonWash;II[J)I"⟩
abbrev cL_late : ByteArray := method_26_code
def yL_late : MethodName := ⟨RL, "late", "(LMoonWash;I[J)I"⟩
abbrev cL_enough : ByteArray := method_27_code
def yL_enough : MethodName := ⟨RL, "enough", "(LMoonWash;I[J)I"⟩
abbrev cL_wears : ByteArray := method_28_code
def yL_wears : MethodName := ⟨RL, "wears", "(LMoonWash;II[J)I"⟩
abbrev cL_trial : ByteArray := method_29_code
def yL_trial : MethodName := ⟨RL, "trial", "(LMoonWash;IZ[J)I"⟩
abbrev cL_span : ByteArray := method_30_code
def yL_span : MethodName := ⟨RL, "span", "(LMoonWash;IZ[J)I"⟩
abbrev cL_led : ByteArray := method_31_code
def yL_led : MethodName := ⟨RL, "led", "(LMoonWash;IZ[J)I"⟩
abbrev cL_log : ByteArray := method_32_code
def yL_log : MethodName := ⟨RL, "log", "(LMoonWash;II[J)I"⟩
abbrev cL_law_ : ByteArray := code
def yL_law_ : MethodName := ⟨RL, "law", "([I)Z"⟩
abbrev vwCl : List vw_C := [(RX1, TX1, 4), (RX2, TX2, 13), (RX3, TX3, 8), (RX5, TX5, 9), (RX6, TX6, 3), (RX7, TX7, 2), (RX8, TX8, 0), (RX9, TX9, 4), (RX10, TX10, 7), (RX11, TX11, 13), (RX12, TX12, 26)]
