section
-- ===== PART A: goes FIRST, ahead of the names: the tables' words, and 'selects' of the private methods out of them =====
/-- a private method of a class that the tables say can be made, by its rows of tables_1 -/
def lw_okq (q : MethodName × Nat) : Prop := (q.1.cls ≠ "java/lang/invoke/MethodHandle" ∧ q.1.cls ≠ "java/lang/invoke/VarHandle") ∧ Cond.instantiable q.1.cls q.2 ∈ tables_1 ∧ Cond.privateMethod q.1 ∈ tables_1 ∧ Cond.instanceMethod q.1 ∈ tables_1
theorem lw_p0 : lw_okq (⟨"EclipsesKept", "made", "(III)LEclipsesKept$Need;"⟩, 8) := ⟨⟨by decide +kernel, by decide +kernel⟩, List.mem_of_getElem? (i := 27) (by decide +kernel), List.mem_of_getElem? (i := 238) (by decide +kernel), List.mem_of_getElem? (i := 239) (by decide +kernel)⟩
theorem lw_p1 : lw_okq (⟨"EclipsesKept$Archive", "holdsFor", "(IIIIII)Z"⟩, 10) := ⟨⟨by decide +kernel, by decide +kernel⟩, List.mem_of_getElem? (i := 366) (by decide +kernel), List.mem_of_getElem? (i := 364) (by decide +kernel), List.mem_of_getElem? (i := 365) (by decide +kernel)⟩
theorem lw_p2 : lw_okq (⟨"EclipsesKept$Archive", "takesClauses", "()Z"⟩, 10) := ⟨⟨by decide +kernel, by decide +kernel⟩, List.mem_of_getElem? (i := 366) (by decide +kernel), List.mem_of_getElem? (i := 605) (by decide +kernel), List.mem_of_getElem? (i := 606) (by decide +kernel)⟩
theorem lw_p3 : lw_okq (⟨"EclipsesKept$Archive", "takesClause", "()Z"⟩, 10) := ⟨⟨by decide +kernel, by decide +kernel⟩, List.mem_of_getElem? (i := 366) (by decide +kernel), List.mem_of_getElem? (i := 609) (by decide +kernel), List.mem_of_getElem? (i := 610) (by decide +kernel)⟩
theorem lw_p4 : lw_okq (⟨"EclipsesKept$Archive", "sees", "(C)Z"⟩, 10) := ⟨⟨by decide +kernel, by decide +kernel⟩, List.mem_of_getElem? (i := 366) (by decide +kernel), List.mem_of_getElem? (i := 613) (by decide +kernel), List.mem_of_getElem? (i := 614) (by decide +kernel)⟩
theorem lw_p5 : lw_okq (⟨"EclipsesKept$Archive", "takesWord", "(Ljava/lang/String;)Z"⟩, 10) := ⟨⟨by decide +kernel, by decide +kernel⟩, List.mem_of_getElem? (i := 366) (by decide +kernel), List.mem_of_getElem? (i := 643) (by decide +kernel), List.mem_of_getElem? (i := 644) (by decide +kernel)⟩
theorem lw_p6 : lw_okq (⟨"EclipsesKept$Archive", "takes", "(C)Z"⟩, 10) := ⟨⟨by decide +kernel, by decide +kernel⟩, List.mem_of_getElem? (i := 366) (by decide +kernel), List.mem_of_getElem? (i := 647) (by decide +kernel), List.mem_of_getElem? (i := 648) (by decide +kernel)⟩
theorem lw_p7 : lw_okq (⟨"EclipsesKept$Archive", "takesNumber", "()I"⟩, 10) := ⟨⟨by decide +kernel, by decide +kernel⟩, List.mem_of_getElem? (i := 366) (by decide +kernel), List.mem_of_getElem? (i := 651) (by decide +kernel), List.mem_of_getElem? (i := 652) (by decide +kernel)⟩
theorem lw_p8 : lw_okq (⟨"EclipsesKept$Archive", "takesEither", "(I)Z"⟩, 10) := ⟨⟨by decide +kernel, by decide +kernel⟩, List.mem_of_getElem? (i := 366) (by decide +kernel), List.mem_of_getElem? (i := 656) (by decide +kernel), List.mem_of_getElem? (i := 657) (by decide +kernel)⟩
theorem lw_p9 : lw_okq (⟨"EclipsesKept$Archive", "takesBoth", "(I)Z"⟩, 10) := ⟨⟨by decide +kernel, by decide +kernel⟩, List.mem_of_getElem? (i := 366) (by decide +kernel), List.mem_of_getElem? (i := 660) (by decide +kernel), List.mem_of_getElem? (i := 661) (by decide +kernel)⟩
theorem lw_p10 : lw_okq (⟨"EclipsesKept$Archive", "takesPart", "(I)Z"⟩, 10) := ⟨⟨by decide +kernel, by decide +kernel⟩, List.mem_of_getElem? (i := 366) (by decide +kernel), List.mem_of_getElem? (i := 664) (by decide +kernel), List.mem_of_getElem? (i := 665) (by decide +kernel)⟩
theorem lw_p11 : lw_okq (⟨"EclipsesKept$Archive", "put", "(I)V"⟩, 10) := ⟨⟨by decide +kernel, by decide +kernel⟩, List.mem_of_getElem? (i := 366) (by decide +kernel), List.mem_of_getElem? (i := 668) (by decide +kernel), List.mem_of_getElem? (i := 669) (by decide +kernel)⟩
theorem lw_p12 : lw_okq (⟨"EclipsesKept$Archive", "takesTest", "()Z"⟩, 10) := ⟨⟨by decide +kernel, by decide +kernel⟩, List.mem_of_getElem? (i := 366) (by decide +kernel), List.mem_of_getElem? (i := 672) (by decide +kernel), List.mem_of_getElem? (i := 673) (by decide +kernel)⟩
theorem lw_p13 : lw_okq (⟨"EclipsesKept$Archive", "takesOneOf", "(Ljava/lang/String;)C"⟩, 10) := ⟨⟨by decide +kernel, by decide +kernel⟩, List.mem_of_getElem? (i := 366) (by decide +kernel), List.mem_of_getElem? (i := 677) (by decide +kernel), List.mem_of_getElem? (i := 678) (by decide +kernel)⟩
theorem lw_p14 : lw_okq (⟨"EclipsesKept", "onTheMean", "(IIII)J"⟩, 8) := ⟨⟨by decide +kernel, by decide +kernel⟩, List.mem_of_getElem? (i := 27) (by decide +kernel), List.mem_of_getElem? (i := 806) (by decide +kernel), List.mem_of_getElem? (i := 807) (by decide +kernel)⟩
theorem lw_p15 : lw_okq (⟨"EclipsesKept", "isAsked", "(II)Z"⟩, 8) := ⟨⟨by decide +kernel, by decide +kernel⟩, List.mem_of_getElem? (i := 27) (by decide +kernel), List.mem_of_getElem? (i := 810) (by decide +kernel), List.mem_of_getElem? (i := 811) (by decide +kernel)⟩
def lw_privs_1 : List (MethodName × Nat) := [(⟨"EclipsesKept", "made", "(III)LEclipsesKept$Need;"⟩, 8), (⟨"EclipsesKept$Archive", "holdsFor", "(IIIIII)Z"⟩, 10), (⟨"EclipsesKept$Archive", "takesClauses", "()Z"⟩, 10), (⟨"EclipsesKept$Archive", "takesClause", "()Z"⟩, 10), (⟨"EclipsesKept$Archive", "sees", "(C)Z"⟩, 10), (⟨"EclipsesKept$Archive", "takesWord", "(Ljava/lang/String;)Z"⟩, 10), (⟨"EclipsesKept$Archive", "takes", "(C)Z"⟩, 10), (⟨"EclipsesKept$Archive", "takesNumber", "()I"⟩, 10), (⟨"EclipsesKept$Archive", "takesEither", "(I)Z"⟩, 10), (⟨"EclipsesKept$Archive", "takesBoth", "(I)Z"⟩, 10), (⟨"EclipsesKept$Archive", "takesPart", "(I)Z"⟩, 10), (⟨"EclipsesKept$Archive", "put", "(I)V"⟩, 10), (⟨"EclipsesKept$Archive", "takesTest", "()Z"⟩, 10), (⟨"EclipsesKept$Archive", "takesOneOf", "(Ljava/lang/String;)C"⟩, 10), (⟨"EclipsesKept", "onTheMean", "(IIII)J"⟩, 8), (⟨"EclipsesKept", "isAsked", "(II)Z"⟩, 8)]
theorem lw_r1 : ∀ q ∈ lw_privs_1, lw_okq q := List.forall_mem_cons.mpr ⟨lw_p0, List.forall_mem_cons.mpr ⟨lw_p1, List.forall_mem_cons.mpr ⟨lw_p2, List.forall_mem_cons.mpr ⟨lw_p3, List.forall_mem_cons.mpr ⟨lw_p4, List.forall_mem_cons.mpr ⟨lw_p5, List.forall_mem_cons.mpr ⟨lw_p6, List.forall_mem_cons.mpr ⟨lw_p7, List.forall_mem_cons.mpr ⟨lw_p8, List.forall_mem_cons.mpr ⟨lw_p9, List.forall_mem_cons.mpr ⟨lw_p10, List.forall_mem_cons.mpr ⟨lw_p11, List.forall_mem_cons.mpr ⟨lw_p12, List.forall_mem_cons.mpr ⟨lw_p13, List.forall_mem_cons.mpr ⟨lw_p14, List.forall_mem_cons.mpr ⟨lw_p15, fun _ h => absurd h List.not_mem_nil⟩⟩⟩⟩⟩⟩⟩⟩⟩⟩⟩⟩⟩⟩⟩⟩
theorem lw_p16 : lw_okq (⟨"EclipsesKept$Years", "weigh", "(III)V"⟩, 8) := ⟨⟨by decide +kernel, by decide +kernel⟩, List.mem_of_getElem? (i := 117) (by decide +kernel), List.mem_of_getElem? (i := 828) (by decide +kernel), List.mem_of_getElem? (i := 829) (by decide +kernel)⟩
theorem lw_p17 : lw_okq (⟨"EclipsesKept$Years", "weighYear", "(IIII)J"⟩, 8) := ⟨⟨by decide +kernel, by decide +kernel⟩, List.mem_of_getElem? (i := 117) (by decide +kernel), List.mem_of_getElem? (i := 832) (by decide +kernel), List.mem_of_getElem? (i := 833) (by decide +kernel)⟩
theorem lw_p18 : lw_okq (⟨"EclipsesKept$Years", "ifServed", "(III)J"⟩, 8) := ⟨⟨by decide +kernel, by decide +kernel⟩, List.mem_of_getElem? (i := 117) (by decide +kernel), List.mem_of_getElem? (i := 840) (by decide +kernel), List.mem_of_getElem? (i := 841) (by decide +kernel)⟩
theorem lw_p19 : lw_okq (⟨"EclipsesKept$Years", "ifSpared", "(II)J"⟩, 8) := ⟨⟨by decide +kernel, by decide +kernel⟩, List.mem_of_getElem? (i := 117) (by decide +kernel), List.mem_of_getElem? (i := 844) (by decide +kernel), List.mem_of_getElem? (i := 845) (by decide +kernel)⟩
theorem lw_p20 : lw_okq (⟨"EclipsesKept", "tapeOf", "(I)LEclipsesKept$Tape;"⟩, 8) := ⟨⟨by decide +kernel, by decide +kernel⟩, List.mem_of_getElem? (i := 27) (by decide +kernel), List.mem_of_getElem? (i := 963) (by decide +kernel), List.mem_of_getElem? (i := 964) (by decide +kernel)⟩
theorem lw_p21 : lw_okq (⟨"EclipsesKeptModel", "in", "(III)Z"⟩, 63) := ⟨⟨by decide +kernel, by decide +kernel⟩, List.mem_of_getElem? (i := 1130) (by decide +kernel), List.mem_of_getElem? (i := 1331) (by decide +kernel), List.mem_of_getElem? (i := 1332) (by decide +kernel)⟩
theorem lw_p22 : lw_okq (⟨"EclipsesKeptModel", "isDarks", "(I)Z"⟩, 63) := ⟨⟨by decide +kernel, by decide +kernel⟩, List.mem_of_getElem? (i := 1130) (by decide +kernel), List.mem_of_getElem? (i := 1339) (by decide +kernel), List.mem_of_getElem? (i := 1340) (by decide +kernel)⟩
theorem lw_p23 : lw_okq (⟨"EclipsesKeptModel", "isNeed", "(I)Z"⟩, 63) := ⟨⟨by decide +kernel, by decide +kernel⟩, List.mem_of_getElem? (i := 1130) (by decide +kernel), List.mem_of_getElem? (i := 1347) (by decide +kernel), List.mem_of_getElem? (i := 1348) (by decide +kernel)⟩
theorem lw_p24 : lw_okq (⟨"EclipsesKeptModel", "goesText", "(I)Z"⟩, 63) := ⟨⟨by decide +kernel, by decide +kernel⟩, List.mem_of_getElem? (i := 1130) (by decide +kernel), List.mem_of_getElem? (i := 1359) (by decide +kernel), List.mem_of_getElem? (i := 1360) (by decide +kernel)⟩
theorem lw_p25 : lw_okq (⟨"EclipsesKeptModel", "takesClause", "(I)Z"⟩, 63) := ⟨⟨by decide +kernel, by decide +kernel⟩, List.mem_of_getElem? (i := 1130) (by decide +kernel), List.mem_of_getElem? (i := 1363) (by decide +kernel), List.mem_of_getElem? (i := 1364) (by decide +kernel)⟩
theorem lw_p26 : lw_okq (⟨"EclipsesKeptModel", "takesHead", "(I)Z"⟩, 63) := ⟨⟨by decide +kernel, by decide +kernel⟩, List.mem_of_getElem? (i := 1130) (by decide +kernel), List.mem_of_getElem? (i := 1367) (by decide +kernel), List.mem_of_getElem? (i := 1368) (by decide +kernel)⟩
theorem lw_p27 : lw_okq (⟨"EclipsesKeptModel", "next", "()I"⟩, 63) := ⟨⟨by decide +kernel, by decide +kernel⟩, List.mem_of_getElem? (i := 1130) (by decide +kernel), List.mem_of_getElem? (i := 1371) (by decide +kernel), List.mem_of_getElem? (i := 1372) (by decide +kernel)⟩
theorem lw_p28 : lw_okq (⟨"EclipsesKeptModel", "takesWord", "(II)Z"⟩, 63) := ⟨⟨by decide +kernel, by decide +kernel⟩, List.mem_of_getElem? (i := 1130) (by decide +kernel), List.mem_of_getElem? (i := 1375) (by decide +kernel), List.mem_of_getElem? (i := 1376) (by decide +kernel)⟩
theorem lw_p29 : lw_okq (⟨"EclipsesKeptModel", "takes", "(I)Z"⟩, 63) := ⟨⟨by decide +kernel, by decide +kernel⟩, List.mem_of_getElem? (i := 1130) (by decide +kernel), List.mem_of_getElem? (i := 1379) (by decide +kernel), List.mem_of_getElem? (i := 1380) (by decide +kernel)⟩
theorem lw_p30 : lw_okq (⟨"EclipsesKeptModel", "takesNumber", "()Z"⟩, 63) := ⟨⟨by decide +kernel, by decide +kernel⟩, List.mem_of_getElem? (i := 1130) (by decide +kernel), List.mem_of_getElem? (i := 1383) (by decide +kernel), List.mem_of_getElem? (i := 1384) (by decide +kernel)⟩
theorem lw_p31 : lw_okq (⟨"EclipsesKeptModel", "isDigit", "()Z"⟩, 63) := ⟨⟨by decide +kernel, by decide +kernel⟩, List.mem_of_getElem? (i := 1130) (by decide +kernel), List.mem_of_getElem? (i := 1387) (by decide +kernel), List.mem_of_getElem? (i := 1388) (by decide +kernel)⟩
def lw_privs_2 : List (MethodName × Nat) := [(⟨"EclipsesKept$Years", "weigh", "(III)V"⟩, 8), (⟨"EclipsesKept$Years", "weighYear", "(IIII)J"⟩, 8), (⟨"EclipsesKept$Years", "ifServed", "(III)J"⟩, 8), (⟨"EclipsesKept$Years", "ifSpared", "(II)J"⟩, 8), (⟨"EclipsesKept", "tapeOf", "(I)LEclipsesKept$Tape;"⟩, 8), (⟨"EclipsesKeptModel", "in", "(III)Z"⟩, 63), (⟨"EclipsesKeptModel", "isDarks", "(I)Z"⟩, 63), (⟨"EclipsesKeptModel", "isNeed", "(I)Z"⟩, 63), (⟨"EclipsesKeptModel", "goesText", "(I)Z"⟩, 63), (⟨"EclipsesKeptModel", "takesClause", "(I)Z"⟩, 63), (⟨"EclipsesKeptModel", "takesHead", "(I)Z"⟩, 63), (⟨"EclipsesKeptModel", "next", "()I"⟩, 63), (⟨"EclipsesKeptModel", "takesWord", "(II)Z"⟩, 63), (⟨"EclipsesKeptModel", "takes", "(I)Z"⟩, 63), (⟨"EclipsesKeptModel", "takesNumber", "()Z"⟩, 63), (⟨"EclipsesKeptModel", "isDigit", "()Z"⟩, 63)]
theorem lw_r2 : ∀ q ∈ lw_privs_2, lw_okq q := List.forall_mem_cons.mpr ⟨lw_p16, List.forall_mem_cons.mpr ⟨lw_p17, List.forall_mem_cons.mpr ⟨lw_p18, List.forall_mem_cons.mpr ⟨lw_p19, List.forall_mem_cons.mpr ⟨lw_p20, List.forall_mem_cons.mpr ⟨lw_p21, List.forall_mem_cons.mpr ⟨lw_p22, List.forall_mem_cons.mpr ⟨lw_p23, List.forall_mem_cons.mpr ⟨lw_p24, List.forall_mem_cons.mpr ⟨lw_p25, List.forall_mem_cons.mpr ⟨lw_p26, List.forall_mem_cons.mpr ⟨lw_p27, List.forall_mem_cons.mpr ⟨lw_p28, List.forall_mem_cons.mpr ⟨lw_p29, List.forall_mem_cons.mpr ⟨lw_p30, List.forall_mem_cons.mpr ⟨lw_p31, fun _ h => absurd h List.not_mem_nil⟩⟩⟩⟩⟩⟩⟩⟩⟩⟩⟩⟩⟩⟩⟩⟩
theorem lw_p32 : lw_okq (⟨"EclipsesKeptModel", "takesE", "(I)Z"⟩, 63) := ⟨⟨by decide +kernel, by decide +kernel⟩, List.mem_of_getElem? (i := 1130) (by decide +kernel), List.mem_of_getElem? (i := 1391) (by decide +kernel), List.mem_of_getElem? (i := 1392) (by decide +kernel)⟩
theorem lw_p33 : lw_okq (⟨"EclipsesKeptModel", "takesTest", "()Z"⟩, 63) := ⟨⟨by decide +kernel, by decide +kernel⟩, List.mem_of_getElem? (i := 1130) (by decide +kernel), List.mem_of_getElem? (i := 1395) (by decide +kernel), List.mem_of_getElem? (i := 1396) (by decide +kernel)⟩
theorem lw_p34 : lw_okq (⟨"EclipsesKeptModel", "place", "(I)I"⟩, 63) := ⟨⟨by decide +kernel, by decide +kernel⟩, List.mem_of_getElem? (i := 1130) (by decide +kernel), List.mem_of_getElem? (i := 1399) (by decide +kernel), List.mem_of_getElem? (i := 1400) (by decide +kernel)⟩
theorem lw_p35 : lw_okq (⟨"EclipsesKeptModel", "emits", "(I)V"⟩, 63) := ⟨⟨by decide +kernel, by decide +kernel⟩, List.mem_of_getElem? (i := 1130) (by decide +kernel), List.mem_of_getElem? (i := 1403) (by decide +kernel), List.mem_of_getElem? (i := 1404) (by decide +kernel)⟩
theorem lw_p36 : lw_okq (⟨"EclipsesKeptModel", "whole", "()V"⟩, 63) := ⟨⟨by decide +kernel, by decide +kernel⟩, List.mem_of_getElem? (i := 1130) (by decide +kernel), List.mem_of_getElem? (i := 1407) (by decide +kernel), List.mem_of_getElem? (i := 1408) (by decide +kernel)⟩
theorem lw_p37 : lw_okq (⟨"EclipsesKeptModel", "settle", "(I)V"⟩, 63) := ⟨⟨by decide +kernel, by decide +kernel⟩, List.mem_of_getElem? (i := 1130) (by decide +kernel), List.mem_of_getElem? (i := 1411) (by decide +kernel), List.mem_of_getElem? (i := 1412) (by decide +kernel)⟩
theorem lw_p38 : lw_okq (⟨"EclipsesKeptModel", "worthOf", "(III)I"⟩, 63) := ⟨⟨by decide +kernel, by decide +kernel⟩, List.mem_of_getElem? (i := 1130) (by decide +kernel), List.mem_of_getElem? (i := 1419) (by decide +kernel), List.mem_of_getElem? (i := 1420) (by decide +kernel)⟩
theorem lw_p39 : lw_okq (⟨"EclipsesKeptModel", "base", "(III)I"⟩, 63) := ⟨⟨by decide +kernel, by decide +kernel⟩, List.mem_of_getElem? (i := 1130) (by decide +kernel), List.mem_of_getElem? (i := 1423) (by decide +kernel), List.mem_of_getElem? (i := 1424) (by decide +kernel)⟩
theorem lw_p40 : lw_okq (⟨"EclipsesKeptModel", "begin", "()I"⟩, 63) := ⟨⟨by decide +kernel, by decide +kernel⟩, List.mem_of_getElem? (i := 1130) (by decide +kernel), List.mem_of_getElem? (i := 1427) (by decide +kernel), List.mem_of_getElem? (i := 1428) (by decide +kernel)⟩
theorem lw_p41 : lw_okq (⟨"EclipsesKeptModel", "behind", "()I"⟩, 63) := ⟨⟨by decide +kernel, by decide +kernel⟩, List.mem_of_getElem? (i := 1130) (by decide +kernel), List.mem_of_getElem? (i := 1431) (by decide +kernel), List.mem_of_getElem? (i := 1432) (by decide +kernel)⟩
theorem lw_p42 : lw_okq (⟨"EclipsesKeptModel", "holds", "(IIII)Z"⟩, 63) := ⟨⟨by decide +kernel, by decide +kernel⟩, List.mem_of_getElem? (i := 1130) (by decide +kernel), List.mem_of_getElem? (i := 1435) (by decide +kernel), List.mem_of_getElem? (i := 1436) (by decide +kernel)⟩
theorem lw_p43 : lw_okq (⟨"EclipsesKeptModel", "factOf", "(IIII)I"⟩, 63) := ⟨⟨by decide +kernel, by decide +kernel⟩, List.mem_of_getElem? (i := 1130) (by decide +kernel), List.mem_of_getElem? (i := 1439) (by decide +kernel), List.mem_of_getElem? (i := 1440) (by decide +kernel)⟩
theorem lw_p44 : lw_okq (⟨"EclipsesKeptModel", "keep", "()I"⟩, 63) := ⟨⟨by decide +kernel, by decide +kernel⟩, List.mem_of_getElem? (i := 1130) (by decide +kernel), List.mem_of_getElem? (i := 1453) (by decide +kernel), List.mem_of_getElem? (i := 1454) (by decide +kernel)⟩
theorem lw_p45 : lw_okq (⟨"EclipsesKeptModel", "held", "(I)I"⟩, 63) := ⟨⟨by decide +kernel, by decide +kernel⟩, List.mem_of_getElem? (i := 1130) (by decide +kernel), List.mem_of_getElem? (i := 1457) (by decide +kernel), List.mem_of_getElem? (i := 1458) (by decide +kernel)⟩
theorem lw_p46 : lw_okq (⟨"EclipsesKeptModel", "isAsked", "(II)Z"⟩, 63) := ⟨⟨by decide +kernel, by decide +kernel⟩, List.mem_of_getElem? (i := 1130) (by decide +kernel), List.mem_of_getElem? (i := 1475) (by decide +kernel), List.mem_of_getElem? (i := 1476) (by decide +kernel)⟩
theorem lw_p47 : lw_okq (⟨"EclipsesKeptModel", "isYears", "(I)Z"⟩, 63) := ⟨⟨by decide +kernel, by decide +kernel⟩, List.mem_of_getElem? (i := 1130) (by decide +kernel), List.mem_of_getElem? (i := 1479) (by decide +kernel), List.mem_of_getElem? (i := 1480) (by decide +kernel)⟩
def lw_privs_3 : List (MethodName × Nat) := [(⟨"EclipsesKeptModel", "takesE", "(I)Z"⟩, 63), (⟨"EclipsesKeptModel", "takesTest", "()Z"⟩, 63), (⟨"EclipsesKeptModel", "place", "(I)I"⟩, 63), (⟨"EclipsesKeptModel", "emits", "(I)V"⟩, 63), (⟨"EclipsesKeptModel", "whole", "()V"⟩, 63), (⟨"EclipsesKeptModel", "settle", "(I)V"⟩, 63), (⟨"EclipsesKeptModel", "worthOf", "(III)I"⟩, 63), (⟨"EclipsesKeptModel", "base", "(III)I"⟩, 63), (⟨"EclipsesKeptModel", "begin", "()I"⟩, 63), (⟨"EclipsesKeptModel", "behind", "()I"⟩, 63), (⟨"EclipsesKeptModel", "holds", "(IIII)Z"⟩, 63), (⟨"EclipsesKeptModel", "factOf", "(IIII)I"⟩, 63), (⟨"EclipsesKeptModel", "keep", "()I"⟩, 63), (⟨"EclipsesKeptModel", "held", "(I)I"⟩, 63), (⟨"EclipsesKeptModel", "isAsked", "(II)Z"⟩, 63), (⟨"EclipsesKeptModel", "isYears", "(I)Z"⟩, 63)]
theorem lw_r3 : ∀ q ∈ lw_privs_3, lw_okq q := List.forall_mem_cons.mpr ⟨lw_p32, List.forall_mem_cons.mpr ⟨lw_p33, List.forall_mem_cons.mpr ⟨lw_p34, List.forall_mem_cons.mpr ⟨lw_p35, List.forall_mem_cons.mpr ⟨lw_p36, List.forall_mem_cons.mpr ⟨lw_p37, List.forall_mem_cons.mpr ⟨lw_p38, List.forall_mem_cons.mpr ⟨lw_p39, List.forall_mem_cons.mpr ⟨lw_p40, List.forall_mem_cons.mpr ⟨lw_p41, List.forall_mem_cons.mpr ⟨lw_p42, List.forall_mem_cons.mpr ⟨lw_p43, List.forall_mem_cons.mpr ⟨lw_p44, List.forall_mem_cons.mpr ⟨lw_p45, List.forall_mem_cons.mpr ⟨lw_p46, List.forall_mem_cons.mpr ⟨lw_p47, fun _ h => absurd h List.not_mem_nil⟩⟩⟩⟩⟩⟩⟩⟩⟩⟩⟩⟩⟩⟩⟩⟩
theorem lw_p48 : lw_okq (⟨"EclipsesKeptModel", "layGains", "(II)V"⟩, 63) := ⟨⟨by decide +kernel, by decide +kernel⟩, List.mem_of_getElem? (i := 1130) (by decide +kernel), List.mem_of_getElem? (i := 1484) (by decide +kernel), List.mem_of_getElem? (i := 1485) (by decide +kernel)⟩
theorem lw_p49 : lw_okq (⟨"EclipsesKeptModel", "gainOf", "(IIIII)J"⟩, 63) := ⟨⟨by decide +kernel, by decide +kernel⟩, List.mem_of_getElem? (i := 1130) (by decide +kernel), List.mem_of_getElem? (i := 1488) (by decide +kernel), List.mem_of_getElem? (i := 1489) (by decide +kernel)⟩
theorem lw_p50 : lw_okq (⟨"EclipsesKeptModel", "ifSpared", "(III)J"⟩, 63) := ⟨⟨by decide +kernel, by decide +kernel⟩, List.mem_of_getElem? (i := 1130) (by decide +kernel), List.mem_of_getElem? (i := 1492) (by decide +kernel), List.mem_of_getElem? (i := 1493) (by decide +kernel)⟩
theorem lw_p51 : lw_okq (⟨"EclipsesKeptModel", "ways", "(I)J"⟩, 63) := ⟨⟨by decide +kernel, by decide +kernel⟩, List.mem_of_getElem? (i := 1130) (by decide +kernel), List.mem_of_getElem? (i := 1496) (by decide +kernel), List.mem_of_getElem? (i := 1497) (by decide +kernel)⟩
theorem lw_p52 : lw_okq (⟨"EclipsesKeptModel", "ifServed", "(IIII)J"⟩, 63) := ⟨⟨by decide +kernel, by decide +kernel⟩, List.mem_of_getElem? (i := 1130) (by decide +kernel), List.mem_of_getElem? (i := 1500) (by decide +kernel), List.mem_of_getElem? (i := 1501) (by decide +kernel)⟩
theorem lw_p53 : lw_okq (⟨"EclipsesKeptModel", "has", "(II)Z"⟩, 63) := ⟨⟨by decide +kernel, by decide +kernel⟩, List.mem_of_getElem? (i := 1130) (by decide +kernel), List.mem_of_getElem? (i := 1504) (by decide +kernel), List.mem_of_getElem? (i := 1505) (by decide +kernel)⟩
theorem lw_p54 : lw_okq (⟨"EclipsesKeptModel", "lowest", "(JJI)J"⟩, 63) := ⟨⟨by decide +kernel, by decide +kernel⟩, List.mem_of_getElem? (i := 1130) (by decide +kernel), List.mem_of_getElem? (i := 1508) (by decide +kernel), List.mem_of_getElem? (i := 1509) (by decide +kernel)⟩
theorem lw_p55 : lw_okq (⟨"EclipsesKeptModel", "divisor", "(JJ)J"⟩, 63) := ⟨⟨by decide +kernel, by decide +kernel⟩, List.mem_of_getElem? (i := 1130) (by decide +kernel), List.mem_of_getElem? (i := 1512) (by decide +kernel), List.mem_of_getElem? (i := 1513) (by decide +kernel)⟩
theorem lw_p56 : lw_okq (⟨"EclipsesKeptModel", "bestSet", "()I"⟩, 63) := ⟨⟨by decide +kernel, by decide +kernel⟩, List.mem_of_getElem? (i := 1130) (by decide +kernel), List.mem_of_getElem? (i := 1552) (by decide +kernel), List.mem_of_getElem? (i := 1553) (by decide +kernel)⟩
theorem lw_p57 : lw_okq (⟨"EclipsesKeptModel", "bits", "(I)I"⟩, 63) := ⟨⟨by decide +kernel, by decide +kernel⟩, List.mem_of_getElem? (i := 1130) (by decide +kernel), List.mem_of_getElem? (i := 1556) (by decide +kernel), List.mem_of_getElem? (i := 1557) (by decide +kernel)⟩
theorem lw_p58 : lw_okq (⟨"EclipsesKeptModel", "gainBy", "(I)I"⟩, 63) := ⟨⟨by decide +kernel, by decide +kernel⟩, List.mem_of_getElem? (i := 1130) (by decide +kernel), List.mem_of_getElem? (i := 1560) (by decide +kernel), List.mem_of_getElem? (i := 1561) (by decide +kernel)⟩
theorem lw_p59 : lw_okq (⟨"EclipsesKeptModel", "isSeen", "(I)Z"⟩, 63) := ⟨⟨by decide +kernel, by decide +kernel⟩, List.mem_of_getElem? (i := 1130) (by decide +kernel), List.mem_of_getElem? (i := 1576) (by decide +kernel), List.mem_of_getElem? (i := 1577) (by decide +kernel)⟩
theorem lw_p60 : lw_okq (⟨"EclipsesKeptModel", "isTape", "(I)Z"⟩, 63) := ⟨⟨by decide +kernel, by decide +kernel⟩, List.mem_of_getElem? (i := 1130) (by decide +kernel), List.mem_of_getElem? (i := 1596) (by decide +kernel), List.mem_of_getElem? (i := 1597) (by decide +kernel)⟩
theorem lw_p61 : lw_okq (⟨"EclipsesKeptModel", "darkensAct", "(II)I"⟩, 63) := ⟨⟨by decide +kernel, by decide +kernel⟩, List.mem_of_getElem? (i := 1130) (by decide +kernel), List.mem_of_getElem? (i := 1612) (by decide +kernel), List.mem_of_getElem? (i := 1613) (by decide +kernel)⟩
theorem lw_p62 : lw_okq (⟨"EclipsesKeptModel", "body", "(I)V"⟩, 63) := ⟨⟨by decide +kernel, by decide +kernel⟩, List.mem_of_getElem? (i := 1130) (by decide +kernel), List.mem_of_getElem? (i := 1616) (by decide +kernel), List.mem_of_getElem? (i := 1617) (by decide +kernel)⟩
theorem lw_p63 : lw_okq (⟨"EclipsesKeptModel", "needDarkens", "(II)I"⟩, 63) := ⟨⟨by decide +kernel, by decide +kernel⟩, List.mem_of_getElem? (i := 1130) (by decide +kernel), List.mem_of_getElem? (i := 1620) (by decide +kernel), List.mem_of_getElem? (i := 1621) (by decide +kernel)⟩
def lw_privs_4 : List (MethodName × Nat) := [(⟨"EclipsesKeptModel", "layGains", "(II)V"⟩, 63), (⟨"EclipsesKeptModel", "gainOf", "(IIIII)J"⟩, 63), (⟨"EclipsesKeptModel", "ifSpared", "(III)J"⟩, 63), (⟨"EclipsesKeptModel", "ways", "(I)J"⟩, 63), (⟨"EclipsesKeptModel", "ifServed", "(IIII)J"⟩, 63), (⟨"EclipsesKeptModel", "has", "(II)Z"⟩, 63), (⟨"EclipsesKeptModel", "lowest", "(JJI)J"⟩, 63), (⟨"EclipsesKeptModel", "divisor", "(JJ)J"⟩, 63), (⟨"EclipsesKeptModel", "bestSet", "()I"⟩, 63), (⟨"EclipsesKeptModel", "bits", "(I)I"⟩, 63), (⟨"EclipsesKeptModel", "gainBy", "(I)I"⟩, 63), (⟨"EclipsesKeptModel", "isSeen", "(I)Z"⟩, 63), (⟨"EclipsesKeptModel", "isTape", "(I)Z"⟩, 63), (⟨"EclipsesKeptModel", "darkensAct", "(II)I"⟩, 63), (⟨"EclipsesKeptModel", "body", "(I)V"⟩, 63), (⟨"EclipsesKeptModel", "needDarkens", "(II)I"⟩, 63)]
theorem lw_r4 : ∀ q ∈ lw_privs_4, lw_okq q := List.forall_mem_cons.mpr ⟨lw_p48, List.forall_mem_cons.mpr ⟨lw_p49, List.forall_mem_cons.mpr ⟨lw_p50, List.forall_mem_cons.mpr ⟨lw_p51, List.forall_mem_cons.mpr ⟨lw_p52, List.forall_mem_cons.mpr ⟨lw_p53, List.forall_mem_cons.mpr ⟨lw_p54, List.forall_mem_cons.mpr ⟨lw_p55, List.forall_mem_cons.mpr ⟨lw_p56, List.forall_mem_cons.mpr ⟨lw_p57, List.forall_mem_cons.mpr ⟨lw_p58, List.forall_mem_cons.mpr ⟨lw_p59, List.forall_mem_cons.mpr ⟨lw_p60, List.forall_mem_cons.mpr ⟨lw_p61, List.forall_mem_cons.mpr ⟨lw_p62, List.forall_mem_cons.mpr ⟨lw_p63, fun _ h => absurd h List.not_mem_nil⟩⟩⟩⟩⟩⟩⟩⟩⟩⟩⟩⟩⟩⟩⟩⟩
theorem lw_p64 : lw_okq (⟨"EclipsesKeptModel", "pleadsAct", "(II)I"⟩, 63) := ⟨⟨by decide +kernel, by decide +kernel⟩, List.mem_of_getElem? (i := 1130) (by decide +kernel), List.mem_of_getElem? (i := 1624) (by decide +kernel), List.mem_of_getElem? (i := 1625) (by decide +kernel)⟩
theorem lw_p65 : lw_okq (⟨"EclipsesKeptModel", "siegePleads", "(II)I"⟩, 63) := ⟨⟨by decide +kernel, by decide +kernel⟩, List.mem_of_getElem? (i := 1130) (by decide +kernel), List.mem_of_getElem? (i := 1628) (by decide +kernel), List.mem_of_getElem? (i := 1629) (by decide +kernel)⟩
theorem lw_p66 : lw_okq (⟨"EclipsesKeptModel", "needPleads", "(II)I"⟩, 63) := ⟨⟨by decide +kernel, by decide +kernel⟩, List.mem_of_getElem? (i := 1130) (by decide +kernel), List.mem_of_getElem? (i := 1632) (by decide +kernel), List.mem_of_getElem? (i := 1633) (by decide +kernel)⟩
theorem lw_p67 : lw_okq (⟨"EclipsesKeptModel", "tellsAct", "(II)I"⟩, 63) := ⟨⟨by decide +kernel, by decide +kernel⟩, List.mem_of_getElem? (i := 1130) (by decide +kernel), List.mem_of_getElem? (i := 1636) (by decide +kernel), List.mem_of_getElem? (i := 1637) (by decide +kernel)⟩
theorem lw_p68 : lw_okq (⟨"EclipsesKeptModel", "needTells", "(II)I"⟩, 63) := ⟨⟨by decide +kernel, by decide +kernel⟩, List.mem_of_getElem? (i := 1130) (by decide +kernel), List.mem_of_getElem? (i := 1640) (by decide +kernel), List.mem_of_getElem? (i := 1641) (by decide +kernel)⟩
theorem lw_p69 : lw_okq (⟨"EclipsesKeptModel", "narrow", "(IJ)J"⟩, 63) := ⟨⟨by decide +kernel, by decide +kernel⟩, List.mem_of_getElem? (i := 1130) (by decide +kernel), List.mem_of_getElem? (i := 1664) (by decide +kernel), List.mem_of_getElem? (i := 1665) (by decide +kernel)⟩
def lw_privs_5 : List (MethodName × Nat) := [(⟨"EclipsesKeptModel", "pleadsAct", "(II)I"⟩, 63), (⟨"EclipsesKeptModel", "siegePleads", "(II)I"⟩, 63), (⟨"EclipsesKeptModel", "needPleads", "(II)I"⟩, 63), (⟨"EclipsesKeptModel", "tellsAct", "(II)I"⟩, 63), (⟨"EclipsesKeptModel", "needTells", "(II)I"⟩, 63), (⟨"EclipsesKeptModel", "narrow", "(IJ)J"⟩, 63)]
theorem lw_r5 : ∀ q ∈ lw_privs_5, lw_okq q := List.forall_mem_cons.mpr ⟨lw_p64, List.forall_mem_cons.mpr ⟨lw_p65, List.forall_mem_cons.mpr ⟨lw_p66, List.forall_mem_cons.mpr ⟨lw_p67, List.forall_mem_cons.mpr ⟨lw_p68, List.forall_mem_cons.mpr ⟨lw_p69, fun _ h => absurd h List.not_mem_nil⟩⟩⟩⟩⟩⟩
def lw_privs : List (MethodName × Nat) := lw_privs_1 ++ (lw_privs_2 ++ (lw_privs_3 ++ (lw_privs_4 ++ (lw_privs_5))))
def lw_tbl : List Cond := k2_sels lw_privs ++ tables_1
theorem lw_privs_ok : ∀ q ∈ lw_privs, lw_okq q := by
  show ∀ q ∈ lw_privs_1 ++ (lw_privs_2 ++ (lw_privs_3 ++ (lw_privs_4 ++ (lw_privs_5)))), lw_okq q
  exact List.forall_mem_append.mpr ⟨lw_r1, List.forall_mem_append.mpr ⟨lw_r2, List.forall_mem_append.mpr ⟨lw_r3, List.forall_mem_append.mpr ⟨lw_r4, lw_r5⟩⟩⟩⟩
-- ===== end of PART A; then your names; then what follows =====
end
section
/-! ===== BEGIN words of one list among another's, by their places ===== -/
theorem goodIn_r {big : List Cond} (ws : List Cond) (ps : List Nat) (hp : ws = ps.filterMap (fun i => big[i]?)) (h : ws.all goodWord = true) : GoodIn big ws := by
  intro w hw
  have h1 := List.all_eq_true.mp h w hw
  rw [hp] at hw
  obtain ⟨i, -, hi⟩ := List.mem_filterMap.mp hw
  have hm : w ∈ big := by first | exact List.mem_of_getElem? hi | exact List.getElem?_mem hi
  exact ⟨hm, good_of_word h1⟩
theorem goodIn_app {big a b : List Cond} (ha : GoodIn big a) (hb : GoodIn big b) : GoodIn big (a ++ b) := fun w h => (List.mem_append.mp h).elim (ha w) (hb w)
theorem goodIn_ca {big a b : List Cond} {c : Cond} (ha : GoodIn big (c :: a)) (hb : GoodIn big b) : GoodIn big (c :: (a ++ b)) := fun w h => (List.mem_cons.mp h).elim (fun e => ha w (List.mem_cons.mpr (Or.inl e))) (fun h => (List.mem_append.mp h).elim (fun h => ha w (List.mem_cons.mpr (Or.inr h))) (hb w))
theorem goodIn_sub {big ws : List Cond} (hm : ∀ w ∈ ws, w ∈ big) (h : ws.all goodWord = true) : GoodIn big ws := fun w hw => ⟨hm w hw, good_of_word (List.all_eq_true.mp h w hw)⟩
/-! ===== END ===== -/
/-! ===== BEGIN printed: names, fields, word lists, decode rows ===== -/
def RX0 : String := "EclipsesKept$Archive"
def TX0 : u_T := fun k => match k with
  | 0 => ("EclipsesKept$Archive", "text", "Ljava/lang/String;", true)
  | 1 => ("EclipsesKept$Archive", "one", "Z", true)
  | 2 => ("EclipsesKept$Archive", "at", "I", false)
  | 3 => ("EclipsesKept$Archive", "sorts", "[I", true)
  | 4 => ("EclipsesKept$Archive", "numbers", "[I", true)
  | 5 => ("EclipsesKept$Archive", "starts", "[I", true)
  | 6 => ("EclipsesKept$Archive", "codes", "[I", true)
  | 7 => ("EclipsesKept$Archive", "clauses", "I", false)
  | 8 => ("EclipsesKept$Archive", "codeCount", "I", false)
  | _ => ("EclipsesKept$Archive", "keep", "I", false)
def tyX0 : Nat → FieldType := fun k => match k with
  | 0 => .object "java/lang/String"
  | 1 => .boolean
  | 2 => .int
  | 3 => .array .int
  | 4 => .array .int
  | 5 => .array .int
  | 6 => .array .int
  | 7 => .int
  | 8 => .int
  | _ => .int
abbrev wsX00 : List Cond := u_ws RX0 TX0 10
theorem nmX0 : ∀ a, a < 10 → ∀ b, b < 10 → a ≠ b → (TX0 a).2.1 ≠ (TX0 b).2.1 := by decide +kernel
theorem tyX0_ok : ∀ k, k < 10 → parseFieldDescriptor (TX0 k).2.2.1 = some (tyX0 k) := by decide +kernel
abbrev cX0_init : ByteArray := prog_2_method_1_code
def yX0_init : MethodName := ⟨RX0, "<init>", "(Ljava/lang/String;)V"⟩
abbrev cX0_isOne : ByteArray := prog_2_method_2_code
def yX0_isOne : MethodName := ⟨RX0, "isOne", "()Z"⟩
abbrev cX0_place : ByteArray := prog_2_method_3_code
def yX0_place : MethodName := ⟨RX0, "place", "()I"⟩
abbrev cX0_takesClauses : ByteArray := prog_2_method_4_code
def yX0_takesClauses : MethodName := ⟨RX0, "takesClauses", "()Z"⟩
abbrev cX0_takesClause : ByteArray := prog_2_method_5_code
def yX0_takesClause : MethodName := ⟨RX0, "takesClause", "()Z"⟩
abbrev cX0_takesEither : ByteArray := prog_2_method_6_code
def yX0_takesEither : MethodName := ⟨RX0, "takesEither", "(I)Z"⟩
abbrev cX0_takesBoth : ByteArray := prog_2_method_7_code
def yX0_takesBoth : MethodName := ⟨RX0, "takesBoth", "(I)Z"⟩
abbrev cX0_takesPart : ByteArray := prog_2_method_8_code
def yX0_takesPart : MethodName := ⟨RX0, "takesPart", "(I)Z"⟩
abbrev cX0_takesTest : ByteArray := prog_2_method_9_code
def yX0_takesTest : MethodName := ⟨RX0, "takesTest", "()Z"⟩
abbrev cX0_takesNumber : ByteArray := prog_2_method_10_code
def yX0_takesNumber : MethodName := ⟨RX0, "takesNumber", "()I"⟩
abbrev cX0_takesWord : ByteArray := prog_2_method_11_code
def yX0_takesWord : MethodName := ⟨RX0, "takesWord", "(Ljava/lang/String;)Z"⟩
abbrev cX0_takesOneOf : ByteArray := prog_2_method_12_code
def yX0_takesOneOf : MethodName := ⟨RX0, "takesOneOf", "(Ljava/lang/String;)C"⟩
abbrev cX0_takes : ByteArray := prog_2_method_13_code
def yX0_takes : MethodName := ⟨RX0, "takes", "(C)Z"⟩
abbrev cX0_sees : ByteArray := prog_2_method_14_code
def yX0_sees : MethodName := ⟨RX0, "sees", "(C)Z"⟩
abbrev cX0_put : ByteArray := prog_2_method_15_code
def yX0_put : MethodName := ⟨RX0, "put", "(I)V"⟩
abbrev cX0_baseOf : ByteArray := prog_2_method_16_code
def yX0_baseOf : MethodName := ⟨RX0, "baseOf", "(IIIII)I"⟩
abbrev cX0_holdsFor : ByteArray := prog_2_method_17_code
def yX0_holdsFor : MethodName := ⟨RX0, "holdsFor", "(IIIIII)Z"⟩
abbrev cX0_passes : ByteArray := prog_2_method_18_code
def yX0_passes : MethodName := ⟨RX0, "passes", "(IIIIII)Z"⟩
def RX1 : String := "EclipsesKept$Bird"
def TX1 : u_T := fun k => match k with
  | 0 => ("EclipsesKept$Need", "kind", "I", true)
  | 1 => ("EclipsesKept$Need", "number", "I", true)
  | 2 => ("EclipsesKept$Need", "v", "I", true)
  | _ => ("EclipsesKept$Need", "bodies", "[I", true)
def tyX1 : Nat → FieldType := fun k => match k with
  | 0 => .int
  | 1 => .int
  | 2 => .int
  | _ => .array .int
abbrev wsX10 : List Cond := u_ws RX1 TX1 4
theorem nmX1 : ∀ a, a < 4 → ∀ b, b < 4 → a ≠ b → (TX1 a).2.1 ≠ (TX1 b).2.1 := by decide +kernel
theorem tyX1_ok : ∀ k, k < 4 → parseFieldDescriptor (TX1 k).2.2.1 = some (tyX1 k) := by decide +kernel
abbrev cX1_init : ByteArray := prog_3_method_1_code
def yX1_init : MethodName := ⟨RX1, "<init>", "(III[I)V"⟩
abbrev cX1_gives : ByteArray := prog_3_method_2_code
def yX1_gives : MethodName := ⟨RX1, "gives", "(IIIII)I"⟩
abbrev cX1_tells : ByteArray := prog_3_method_3_code
def yX1_tells : MethodName := ⟨RX1, "tells", "(I)I"⟩
def RX2 : String := "EclipsesKept$Child"
def TX2 : u_T := fun k => match k with
  | 0 => ("EclipsesKept$Need", "kind", "I", true)
  | 1 => ("EclipsesKept$Need", "number", "I", true)
  | 2 => ("EclipsesKept$Need", "v", "I", true)
  | _ => ("EclipsesKept$Need", "bodies", "[I", true)
def tyX2 : Nat → FieldType := fun k => match k with
  | 0 => .int
  | 1 => .int
  | 2 => .int
  | _ => .array .int
abbrev wsX20 : List Cond := u_ws RX2 TX2 4
theorem nmX2 : ∀ a, a < 4 → ∀ b, b < 4 → a ≠ b → (TX2 a).2.1 ≠ (TX2 b).2.1 := by decide +kernel
theorem tyX2_ok : ∀ k, k < 4 → parseFieldDescriptor (TX2 k).2.2.1 = some (tyX2 k) := by decide +kernel
abbrev cX2_init : ByteArray := prog_4_method_1_code
def yX2_init : MethodName := ⟨RX2, "<init>", "(III[I)V"⟩
abbrev cX2_gives : ByteArray := prog_4_method_2_code
def yX2_gives : MethodName := ⟨RX2, "gives", "(IIIII)I"⟩
abbrev cX2_darkens : ByteArray := prog_4_method_3_code
def yX2_darkens : MethodName := ⟨RX2, "darkens", "(I)I"⟩
abbrev cX2_pleads : ByteArray := prog_4_method_4_code
def yX2_pleads : MethodName := ⟨RX2, "pleads", "(I)I"⟩
def RX3 : String := "EclipsesKept$Crown"
def TX3 : u_T := fun k => match k with
  | 0 => ("EclipsesKept$Need", "kind", "I", true)
  | 1 => ("EclipsesKept$Need", "number", "I", true)
  | 2 => ("EclipsesKept$Need", "v", "I", true)
  | _ => ("EclipsesKept$Need", "bodies", "[I", true)
def tyX3 : Nat → FieldType := fun k => match k with
  | 0 => .int
  | 1 => .int
  | 2 => .int
  | _ => .array .int
abbrev wsX30 : List Cond := u_ws RX3 TX3 4
theorem nmX3 : ∀ a, a < 4 → ∀ b, b < 4 → a ≠ b → (TX3 a).2.1 ≠ (TX3 b).2.1 := by decide +kernel
theorem tyX3_ok : ∀ k, k < 4 → parseFieldDescriptor (TX3 k).2.2.1 = some (tyX3 k) := by decide +kernel
abbrev cX3_init : ByteArray := prog_5_method_1_code
def yX3_init : MethodName := ⟨RX3, "<init>", "(III[I)V"⟩
abbrev cX3_gives : ByteArray := prog_5_method_2_code
def yX3_gives : MethodName := ⟨RX3, "gives", "(IIIII)I"⟩
abbrev cX3_darkens : ByteArray := prog_5_method_3_code
def yX3_darkens : MethodName := ⟨RX3, "darkens", "(I)I"⟩
def RX4 : String := "EclipsesKept$Need"
def TX4 : u_T := fun k => match k with
  | 0 => ("EclipsesKept$Need", "kind", "I", true)
  | 1 => ("EclipsesKept$Need", "number", "I", true)
  | 2 => ("EclipsesKept$Need", "v", "I", true)
  | _ => ("EclipsesKept$Need", "bodies", "[I", true)
def tyX4 : Nat → FieldType := fun k => match k with
  | 0 => .int
  | 1 => .int
  | 2 => .int
  | _ => .array .int
abbrev wsX40 : List Cond := u_ws RX4 TX4 4
theorem nmX4 : ∀ a, a < 4 → ∀ b, b < 4 → a ≠ b → (TX4 a).2.1 ≠ (TX4 b).2.1 := by decide +kernel
theorem tyX4_ok : ∀ k, k < 4 → parseFieldDescriptor (TX4 k).2.2.1 = some (tyX4 k) := by decide +kernel
abbrev cX4_init : ByteArray := prog_6_method_1_code
def yX4_init : MethodName := ⟨RX4, "<init>", "(III[I)V"⟩
abbrev cX4_gives : ByteArray := prog_6_method_2_code
def yX4_gives : MethodName := ⟨RX4, "gives", "(IIIII)I"⟩
abbrev cX4_began : ByteArray := prog_6_method_3_code
def yX4_began : MethodName := ⟨RX4, "began", "(I)V"⟩
abbrev cX4_darkens : ByteArray := prog_6_method_4_code
def yX4_darkens : MethodName := ⟨RX4, "darkens", "(I)I"⟩
abbrev cX4_pleads : ByteArray := prog_6_method_5_code
def yX4_pleads : MethodName := ⟨RX4, "pleads", "(I)I"⟩
abbrev cX4_tells : ByteArray := prog_6_method_6_code
def yX4_tells : MethodName := ⟨RX4, "tells", "(I)I"⟩
def RX5 : String := "EclipsesKept$Photo"
def TX5 : u_T := fun k => match k with
  | 0 => ("EclipsesKept$Need", "kind", "I", true)
  | 1 => ("EclipsesKept$Need", "number", "I", true)
  | 2 => ("EclipsesKept$Need", "v", "I", true)
  | _ => ("EclipsesKept$Need", "bodies", "[I", true)
def tyX5 : Nat → FieldType := fun k => match k with
  | 0 => .int
  | 1 => .int
  | 2 => .int
  | _ => .array .int
abbrev wsX50 : List Cond := u_ws RX5 TX5 4
theorem nmX5 : ∀ a, a < 4 → ∀ b, b < 4 → a ≠ b → (TX5 a).2.1 ≠ (TX5 b).2.1 := by decide +kernel
theorem tyX5_ok : ∀ k, k < 4 → parseFieldDescriptor (TX5 k).2.2.1 = some (tyX5 k) := by decide +kernel
abbrev cX5_init : ByteArray := prog_7_method_1_code
def yX5_init : MethodName := ⟨RX5, "<init>", "(III[I)V"⟩
abbrev cX5_gives : ByteArray := prog_7_method_2_code
def yX5_gives : MethodName := ⟨RX5, "gives", "(IIIII)I"⟩
abbrev cX5_tells : ByteArray := prog_7_method_3_code
def yX5_tells : MethodName := ⟨RX5, "tells", "(I)I"⟩
def RX6 : String := "EclipsesKept$Siege"
def TX6 : u_T := fun k => match k with
  | 0 => ("EclipsesKept$Need", "kind", "I", true)
  | 1 => ("EclipsesKept$Need", "number", "I", true)
  | 2 => ("EclipsesKept$Need", "v", "I", true)
  | _ => ("EclipsesKept$Need", "bodies", "[I", true)
def tyX6 : Nat → FieldType := fun k => match k with
  | 0 => .int
  | 1 => .int
  | 2 => .int
  | _ => .array .int
abbrev wsX60 : List Cond := u_ws RX6 TX6 4
theorem nmX6 : ∀ a, a < 4 → ∀ b, b < 4 → a ≠ b → (TX6 a).2.1 ≠ (TX6 b).2.1 := by decide +kernel
theorem tyX6_ok : ∀ k, k < 4 → parseFieldDescriptor (TX6 k).2.2.1 = some (tyX6 k) := by decide +kernel
abbrev cX6_init : ByteArray := prog_8_method_1_code
def yX6_init : MethodName := ⟨RX6, "<init>", "(III[I)V"⟩
abbrev cX6_gives : ByteArray := prog_8_method_2_code
def yX6_gives : MethodName := ⟨RX6, "gives", "(IIIII)I"⟩
abbrev cX6_pleads : ByteArray := prog_8_method_3_code
def yX6_pleads : MethodName := ⟨RX6, "pleads", "(I)I"⟩
def RX7 : String := "EclipsesKept$State"
def TX7 : u_T := fun k => match k with
  | 0 => ("EclipsesKept$State", "needs", "[LEclipsesKept$Need;", true)
  | 1 => ("EclipsesKept$State", "served", "[I", true)
  | 2 => ("EclipsesKept$State", "rows", "[I", true)
  | 3 => ("EclipsesKept$State", "century", "[I", true)
  | 4 => ("EclipsesKept$State", "seenNeed", "[I", true)
  | 5 => ("EclipsesKept$State", "seenWorth", "[I", true)
  | 6 => ("EclipsesKept$State", "seenAhead", "[I", true)
  | 7 => ("EclipsesKept$State", "bookNeed", "[I", true)
  | 8 => ("EclipsesKept$State", "bookServed", "[I", true)
  | 9 => ("EclipsesKept$State", "needCount", "I", false)
  | 10 => ("EclipsesKept$State", "centuryCount", "I", false)
  | 11 => ("EclipsesKept$State", "seenCount", "I", false)
  | 12 => ("EclipsesKept$State", "bookCount", "I", false)
  | 13 => ("EclipsesKept$State", "darks", "I", false)
  | 14 => ("EclipsesKept$State", "glory", "I", false)
  | 15 => ("EclipsesKept$State", "year", "I", false)
  | _ => ("EclipsesKept$State", "archive", "LEclipsesKept$Archive;", false)
def tyX7 : Nat → FieldType := fun k => match k with
  | 0 => .array (.object "EclipsesKept$Need")
  | 1 => .array .int
  | 2 => .array .int
  | 3 => .array .int
  | 4 => .array .int
  | 5 => .array .int
  | 6 => .array .int
  | 7 => .array .int
  | 8 => .array .int
  | 9 => .int
  | 10 => .int
  | 11 => .int
  | 12 => .int
  | 13 => .int
  | 14 => .int
  | 15 => .int
  | _ => .object "EclipsesKept$Archive"
abbrev wsX70 : List Cond := u_ws RX7 TX7 17
theorem nmX7 : ∀ a, a < 17 → ∀ b, b < 17 → a ≠ b → (TX7 a).2.1 ≠ (TX7 b).2.1 := by decide +kernel
theorem tyX7_ok : ∀ k, k < 17 → parseFieldDescriptor (TX7 k).2.2.1 = some (tyX7 k) := by decide +kernel
abbrev cX7_init : ByteArray := prog_9_method_1_code
def yX7_init : MethodName := ⟨RX7, "<init>", "()V"⟩
abbrev cX7_become : ByteArray := prog_9_method_2_code
def yX7_become : MethodName := ⟨RX7, "become", "(LEclipsesKept$State;)V"⟩
abbrev cX7_has : ByteArray := prog_9_method_3_code
def yX7_has : MethodName := ⟨RX7, "has", "(I)Z"⟩
abbrev cX7_needOf : ByteArray := prog_9_method_4_code
def yX7_needOf : MethodName := ⟨RX7, "needOf", "(I)LEclipsesKept$Need;"⟩
abbrev cX7_join : ByteArray := prog_9_method_5_code
def yX7_join : MethodName := ⟨RX7, "join", "(LEclipsesKept$Need;)I"⟩
abbrev cX7_keepCost : ByteArray := prog_9_method_6_code
def yX7_keepCost : MethodName := ⟨RX7, "keepCost", "()I"⟩
abbrev cX7_endYear : ByteArray := prog_9_method_7_code
def yX7_endYear : MethodName := ⟨RX7, "endYear", "(I)I"⟩
abbrev cX7_worthOf : ByteArray := prog_9_method_8_code
def yX7_worthOf : MethodName := ⟨RX7, "worthOf", "(III)I"⟩
abbrev cX7_worthBy : ByteArray := prog_9_method_9_code
def yX7_worthBy : MethodName := ⟨RX7, "worthBy", "(IIII)I"⟩
abbrev cX7_isAllSeen : ByteArray := prog_9_method_10_code
def yX7_isAllSeen : MethodName := ⟨RX7, "isAllSeen", "(III)Z"⟩
def RX8 : String := "EclipsesKept$Tape"
def TX8 : u_T := fun k => match k with
  | 0 => ("EclipsesKept$Tape", "items", "[J", true)
  | 1 => ("EclipsesKept$Tape", "sort", "I", false)
  | _ => ("EclipsesKept$Tape", "length", "I", false)
def tyX8 : Nat → FieldType := fun k => match k with
  | 0 => .array .long
  | 1 => .int
  | _ => .int
abbrev wsX80 : List Cond := u_ws RX8 TX8 3
theorem nmX8 : ∀ a, a < 3 → ∀ b, b < 3 → a ≠ b → (TX8 a).2.1 ≠ (TX8 b).2.1 := by decide +kernel
theorem tyX8_ok : ∀ k, k < 3 → parseFieldDescriptor (TX8 k).2.2.1 = some (tyX8 k) := by decide +kernel
abbrev cX8_init : ByteArray := prog_10_method_1_code
def yX8_init : MethodName := ⟨RX8, "<init>", "()V"⟩
abbrev cX8_holds : ByteArray := prog_10_method_2_code
def yX8_holds : MethodName := ⟨RX8, "holds", "()Z"⟩
abbrev cX8_become : ByteArray := prog_10_method_3_code
def yX8_become : MethodName := ⟨RX8, "become", "(II)V"⟩
abbrev cX8_hasPlace : ByteArray := prog_10_method_4_code
def yX8_hasPlace : MethodName := ⟨RX8, "hasPlace", "(I)Z"⟩
abbrev cX8_hasRun : ByteArray := prog_10_method_5_code
def yX8_hasRun : MethodName := ⟨RX8, "hasRun", "(II)Z"⟩
abbrev cX8_narrowed : ByteArray := prog_10_method_6_code
def yX8_narrowed : MethodName := ⟨RX8, "narrowed", "(J)J"⟩
def RX9 : String := "EclipsesKept$Told"
def TX9 : u_T := fun k => match k with
  | 0 => ("EclipsesKept$Need", "kind", "I", true)
  | 1 => ("EclipsesKept$Need", "number", "I", true)
  | 2 => ("EclipsesKept$Need", "v", "I", true)
  | _ => ("EclipsesKept$Need", "bodies", "[I", true)
def tyX9 : Nat → FieldType := fun k => match k with
  | 0 => .int
  | 1 => .int
  | 2 => .int
  | _ => .array .int
abbrev wsX90 : List Cond := u_ws RX9 TX9 4
theorem nmX9 : ∀ a, a < 4 → ∀ b, b < 4 → a ≠ b → (TX9 a).2.1 ≠ (TX9 b).2.1 := by decide +kernel
theorem tyX9_ok : ∀ k, k < 4 → parseFieldDescriptor (TX9 k).2.2.1 = some (tyX9 k) := by decide +kernel
abbrev cX9_init : ByteArray := prog_11_method_1_code
def yX9_init : MethodName := ⟨RX9, "<init>", "(III[I)V"⟩
abbrev cX9_gives : ByteArray := prog_11_method_2_code
def yX9_gives : MethodName := ⟨RX9, "gives", "(IIIII)I"⟩
abbrev cX9_pleads : ByteArray := prog_11_method_3_code
def yX9_pleads : MethodName := ⟨RX9, "pleads", "(I)I"⟩
abbrev cX9_darkens : ByteArray := prog_11_method_4_code
def yX9_darkens : MethodName := ⟨RX9, "darkens", "(I)I"⟩
def RX10 : String := "EclipsesKept$Years"
def TX10 : u_T := fun k => match k with
  | 0 => ("EclipsesKept$Years", "worths", "[I", true)
  | 1 => ("EclipsesKept$Years", "ways", "[J", true)
  | 2 => ("EclipsesKept$Years", "totals", "[[J", true)
  | 3 => ("EclipsesKept$Years", "spentWays", "[[J", true)
  | 4 => ("EclipsesKept$Years", "needs", "I", false)
  | 5 => ("EclipsesKept$Years", "mostDarks", "I", false)
  | 6 => ("EclipsesKept$Years", "keep", "I", false)
  | _ => ("EclipsesKept$Years", "ahead", "I", false)
def tyX10 : Nat → FieldType := fun k => match k with
  | 0 => .array .int
  | 1 => .array .long
  | 2 => .array (.array .long)
  | 3 => .array (.array .long)
  | 4 => .int
  | 5 => .int
  | 6 => .int
  | _ => .int
abbrev wsX100 : List Cond := u_ws RX10 TX10 8
theorem nmX10 : ∀ a, a < 8 → ∀ b, b < 8 → a ≠ b → (TX10 a).2.1 ≠ (TX10 b).2.1 := by decide +kernel
theorem tyX10_ok : ∀ k, k < 8 → parseFieldDescriptor (TX10 k).2.2.1 = some (tyX10 k) := by decide +kernel
abbrev cX10_init : ByteArray := prog_12_method_1_code
def yX10_init : MethodName := ⟨RX10, "<init>", "()V"⟩
abbrev cX10_look : ByteArray := prog_12_method_2_code
def yX10_look : MethodName := ⟨RX10, "look", "(LEclipsesKept$State;II)V"⟩
abbrev cX10_place : ByteArray := prog_12_method_3_code
def yX10_place : MethodName := ⟨RX10, "place", "(III)I"⟩
abbrev cX10_ask : ByteArray := prog_12_method_4_code
def yX10_ask : MethodName := ⟨RX10, "ask", "(LEclipsesKept$State;IIII)V"⟩
abbrev cX10_weigh : ByteArray := prog_12_method_5_code
def yX10_weigh : MethodName := ⟨RX10, "weigh", "(III)V"⟩
abbrev cX10_weighYear : ByteArray := prog_12_method_6_code
def yX10_weighYear : MethodName := ⟨RX10, "weighYear", "(IIII)J"⟩
abbrev cX10_serves : ByteArray := prog_12_method_7_code
def yX10_serves : MethodName := ⟨RX10, "serves", "(IIIII)Z"⟩
abbrev cX10_ifServed : ByteArray := prog_12_method_8_code
def yX10_ifServed : MethodName := ⟨RX10, "ifServed", "(III)J"⟩
abbrev cX10_ifSpared : ByteArray := prog_12_method_9_code
def yX10_ifSpared : MethodName := ⟨RX10, "ifSpared", "(II)J"⟩
abbrev cX10_bestSet : ByteArray := prog_12_method_10_code
def yX10_bestSet : MethodName := ⟨RX10, "bestSet", "(II)I"⟩
abbrev cX10_waysToSpend : ByteArray := prog_12_method_11_code
def yX10_waysToSpend : MethodName := ⟨RX10, "waysToSpend", "(II)J"⟩
abbrev cX10_leastWise : ByteArray := prog_12_method_12_code
def yX10_leastWise : MethodName := ⟨RX10, "leastWise", "(II)J"⟩
abbrev cX10_bestPlan : ByteArray := prog_12_method_13_code
def yX10_bestPlan : MethodName := ⟨RX10, "bestPlan", "(LEclipsesKept$State;)I"⟩
abbrev cX10_gain : ByteArray := prog_12_method_14_code
def yX10_gain : MethodName := ⟨RX10, "gain", "(LEclipsesKept$State;I)I"⟩
def RX11 : String := "EclipsesKept"
def TX11 : u_T := fun k => match k with
  | 0 => ("EclipsesKept", "state", "LEclipsesKept$State;", true)
  | 1 => ("EclipsesKept", "kept", "LEclipsesKept$State;", true)
  | 2 => ("EclipsesKept", "years", "LEclipsesKept$Years;", true)
  | 3 => ("EclipsesKept", "tapes", "[LEclipsesKept$Tape;", true)
  | 4 => ("EclipsesKept", "text", "Ljava/lang/StringBuilder;", true)
  | 5 => ("EclipsesKept", "bodies", "[I", true)
  | 6 => ("EclipsesKept", "archives", "I", false)
  | _ => ("EclipsesKept", "imaged", "Z", false)
def tyX11 : Nat → FieldType := fun k => match k with
  | 0 => .object "EclipsesKept$State"
  | 1 => .object "EclipsesKept$State"
  | 2 => .object "EclipsesKept$Years"
  | 3 => .array (.object "EclipsesKept$Tape")
  | 4 => .object "java/lang/StringBuilder"
  | 5 => .array .int
  | 6 => .int
  | _ => .boolean
abbrev wsX110 : List Cond := u_ws RX11 TX11 8
theorem nmX11 : ∀ a, a < 8 → ∀ b, b < 8 → a ≠ b → (TX11 a).2.1 ≠ (TX11 b).2.1 := by decide +kernel
theorem tyX11_ok : ∀ k, k < 8 → parseFieldDescriptor (TX11 k).2.2.1 = some (tyX11 k) := by decide +kernel
abbrev cX11_init : ByteArray := prog_1_method_1_code
def yX11_init : MethodName := ⟨RX11, "<init>", "()V"⟩
abbrev cX11_need : ByteArray := prog_1_method_2_code
def yX11_need : MethodName := ⟨RX11, "need", "(II)I"⟩
abbrev cX11_of : ByteArray := prog_1_method_3_code
def yX11_of : MethodName := ⟨RX11, "of", "(II)I"⟩
abbrev cX11_worth : ByteArray := prog_1_method_4_code
def yX11_worth : MethodName := ⟨RX11, "worth", "(III)I"⟩
abbrev cX11_serve : ByteArray := prog_1_method_5_code
def yX11_serve : MethodName := ⟨RX11, "serve", "(I)I"⟩
abbrev cX11_spare : ByteArray := prog_1_method_6_code
def yX11_spare : MethodName := ⟨RX11, "spare", "(I)I"⟩
abbrev cX11_darks : ByteArray := prog_1_method_7_code
def yX11_darks : MethodName := ⟨RX11, "darks", "(I)I"⟩
abbrev cX11_row : ByteArray := prog_1_method_8_code
def yX11_row : MethodName := ⟨RX11, "row", "(III)I"⟩
abbrev cX11_feed : ByteArray := prog_1_method_9_code
def yX11_feed : MethodName := ⟨RX11, "feed", "(I)I"⟩
abbrev cX11_archive : ByteArray := prog_1_method_10_code
def yX11_archive : MethodName := ⟨RX11, "archive", "()I"⟩
abbrev cX11_told : ByteArray := prog_1_method_11_code
def yX11_told : MethodName := ⟨RX11, "told", "(I)I"⟩
abbrev cX11_mean : ByteArray := prog_1_method_12_code
def yX11_mean : MethodName := ⟨RX11, "mean", "(II)J"⟩
abbrev cX11_wise : ByteArray := prog_1_method_13_code
def yX11_wise : MethodName := ⟨RX11, "wise", "(II)I"⟩
abbrev cX11_price : ByteArray := prog_1_method_14_code
def yX11_price : MethodName := ⟨RX11, "price", "(II)J"⟩
abbrev cX11_greedy : ByteArray := prog_1_method_15_code
def yX11_greedy : MethodName := ⟨RX11, "greedy", "(II)J"⟩
abbrev cX11_only : ByteArray := prog_1_method_16_code
def yX11_only : MethodName := ⟨RX11, "only", "(III)J"⟩
abbrev cX11_chosen : ByteArray := prog_1_method_17_code
def yX11_chosen : MethodName := ⟨RX11, "chosen", "(I)I"⟩
abbrev cX11_spent : ByteArray := prog_1_method_18_code
def yX11_spent : MethodName := ⟨RX11, "spent", "(II)J"⟩
abbrev cX11_threshold : ByteArray := prog_1_method_19_code
def yX11_threshold : MethodName := ⟨RX11, "threshold", "(I)I"⟩
abbrev cX11_century : ByteArray := prog_1_method_20_code
def yX11_century : MethodName := ⟨RX11, "century", "(I)I"⟩
abbrev cX11_plan : ByteArray := prog_1_method_21_code
def yX11_plan : MethodName := ⟨RX11, "plan", "(I)I"⟩
abbrev cX11_ends : ByteArray := prog_1_method_22_code
def yX11_ends : MethodName := ⟨RX11, "ends", "(I)I"⟩
abbrev cX11_see : ByteArray := prog_1_method_23_code
def yX11_see : MethodName := ⟨RX11, "see", "(III)I"⟩
abbrev cX11_can : ByteArray := prog_1_method_24_code
def yX11_can : MethodName := ⟨RX11, "can", "(II)I"⟩
abbrev cX11_darked : ByteArray := prog_1_method_25_code
def yX11_darked : MethodName := ⟨RX11, "darked", "(I)I"⟩
abbrev cX11_book : ByteArray := prog_1_method_26_code
def yX11_book : MethodName := ⟨RX11, "book", "(II)I"⟩
abbrev cX11_looked : ByteArray := prog_1_method_27_code
def yX11_looked : MethodName := ⟨RX11, "looked", "()I"⟩
abbrev cX11_judge : ByteArray := prog_1_method_28_code
def yX11_judge : MethodName := ⟨RX11, "judge", "(II)I"⟩
abbrev cX11_image : ByteArray := prog_1_method_29_code
def yX11_image : MethodName := ⟨RX11, "image", "()I"⟩
abbrev cX11_undo : ByteArray := prog_1_method_30_code
def yX11_undo : MethodName := ⟨RX11, "undo", "()I"⟩
abbrev cX11_act : ByteArray := prog_1_method_31_code
def yX11_act : MethodName := ⟨RX11, "act", "(III)I"⟩
abbrev cX11_trace : ByteArray := prog_1_method_32_code
def yX11_trace : MethodName := ⟨RX11, "trace", "(I)I"⟩
abbrev cX11_taken : ByteArray := prog_1_method_33_code
def yX11_taken : MethodName := ⟨RX11, "taken", "(II)I"⟩
abbrev cX11_count : ByteArray := prog_1_method_34_code
def yX11_count : MethodName := ⟨RX11, "count", "(I)I"⟩
abbrev cX11_tape : ByteArray := prog_1_method_35_code
def yX11_tape : MethodName := ⟨RX11, "tape", "(III)I"⟩
abbrev cX11_item : ByteArray := prog_1_method_36_code
def yX11_item : MethodName := ⟨RX11, "item", "(IIJ)I"⟩
abbrev cX11_read : ByteArray := prog_1_method_37_code
def yX11_read : MethodName := ⟨RX11, "read", "(II)J"⟩
abbrev cX11_shift : ByteArray := prog_1_method_38_code
def yX11_shift : MethodName := ⟨RX11, "shift", "(IIIII)I"⟩
abbrev cX11_isWithin : ByteArray := prog_1_method_39_code
def yX11_isWithin : MethodName := ⟨RX11, "isWithin", "(II)Z"⟩
abbrev cX11_isAsked : ByteArray := prog_1_method_40_code
def yX11_isAsked : MethodName := ⟨RX11, "isAsked", "(II)Z"⟩
abbrev cX11_onTheMean : ByteArray := prog_1_method_41_code
def yX11_onTheMean : MethodName := ⟨RX11, "onTheMean", "(IIII)J"⟩
abbrev cX11_tapeOf : ByteArray := prog_1_method_42_code
def yX11_tapeOf : MethodName := ⟨RX11, "tapeOf", "(I)LEclipsesKept$Tape;"⟩
abbrev cX11_made : ByteArray := prog_1_method_43_code
def yX11_made : MethodName := ⟨RX11, "made", "(III)LEclipsesKept$Need;"⟩
abbrev cX11_isOfKind : ByteArray := prog_1_method_44_code
def yX11_isOfKind : MethodName := ⟨RX11, "isOfKind", "(LEclipsesKept$Need;I)Z"⟩
abbrev cX11_fraction : ByteArray := prog_1_method_45_code
def yX11_fraction : MethodName := ⟨RX11, "fraction", "(JJI)J"⟩
abbrev cX11_commonOf : ByteArray := prog_1_method_46_code
def yX11_commonOf : MethodName := ⟨RX11, "commonOf", "(JJ)J"⟩
def RX12 : String := "EclipsesKeptModel"
def TX12 : u_T := fun k => match k with
  | 0 => ("EclipsesKeptModel", "needs", "I", false)
  | 1 => ("EclipsesKeptModel", "dark", "I", false)
  | 2 => ("EclipsesKeptModel", "glory", "I", false)
  | 3 => ("EclipsesKeptModel", "year", "I", false)
  | 4 => ("EclipsesKeptModel", "kind", "[I", true)
  | 5 => ("EclipsesKeptModel", "v", "[I", true)
  | 6 => ("EclipsesKeptModel", "served", "[I", true)
  | 7 => ("EclipsesKeptModel", "rows", "[I", true)
  | 8 => ("EclipsesKeptModel", "archives", "I", false)
  | 9 => ("EclipsesKeptModel", "the", "I", false)
  | 10 => ("EclipsesKeptModel", "fed", "I", false)
  | 11 => ("EclipsesKeptModel", "at", "I", false)
  | 12 => ("EclipsesKeptModel", "digits", "I", false)
  | 13 => ("EclipsesKeptModel", "text", "[I", true)
  | 14 => ("EclipsesKeptModel", "clauses", "[I", true)
  | 15 => ("EclipsesKeptModel", "word", "[I", true)
  | 16 => ("EclipsesKeptModel", "number", "[I", true)
  | 17 => ("EclipsesKeptModel", "from", "[I", true)
  | 18 => ("EclipsesKeptModel", "to", "[I", true)
  | 19 => ("EclipsesKeptModel", "sign", "[I", true)
  | 20 => ("EclipsesKeptModel", "waits", "[I", true)
  | 21 => ("EclipsesKeptModel", "signs", "I", false)
  | 22 => ("EclipsesKeptModel", "waiting", "I", false)
  | 23 => ("EclipsesKeptModel", "open", "I", false)
  | 24 => ("EclipsesKeptModel", "letters", "[I", true)
  | 25 => ("EclipsesKeptModel", "pile", "[Z", true)
  | 26 => ("EclipsesKeptModel", "gain", "[J", true)
  | 27 => ("EclipsesKeptModel", "chosenSet", "I", false)
  | 28 => ("EclipsesKeptModel", "out", "[J", true)
  | 29 => ("EclipsesKeptModel", "comes", "I", false)
  | 30 => ("EclipsesKeptModel", "comesNeed", "[I", true)
  | 31 => ("EclipsesKeptModel", "seen", "I", false)
  | 32 => ("EclipsesKeptModel", "books", "I", false)
  | 33 => ("EclipsesKeptModel", "seenNeed", "[I", true)
  | 34 => ("EclipsesKeptModel", "seenWorth", "[I", true)
  | 35 => ("EclipsesKeptModel", "seenWhen", "[I", true)
  | 36 => ("EclipsesKeptModel", "bookNeed", "[I", true)
  | 37 => ("EclipsesKeptModel", "bookServed", "[I", true)
  | 38 => ("EclipsesKeptModel", "hasImage", "Z", false)
  | 39 => ("EclipsesKeptModel", "imageThe", "I", false)
  | 40 => ("EclipsesKeptModel", "imageNeeds", "I", false)
  | 41 => ("EclipsesKeptModel", "imageDark", "I", false)
  | 42 => ("EclipsesKeptModel", "imageGlory", "I", false)
  | 43 => ("EclipsesKeptModel", "imageYear", "I", false)
  | 44 => ("EclipsesKeptModel", "imageComes", "I", false)
  | 45 => ("EclipsesKeptModel", "imageSeen", "I", false)
  | 46 => ("EclipsesKeptModel", "imageBooks", "I", false)
  | 47 => ("EclipsesKeptModel", "imageKind", "[I", true)
  | 48 => ("EclipsesKeptModel", "imageV", "[I", true)
  | 49 => ("EclipsesKeptModel", "imageServed", "[I", true)
  | 50 => ("EclipsesKeptModel", "imageRows", "[I", true)
  | 51 => ("EclipsesKeptModel", "imageComesNeed", "[I", true)
  | 52 => ("EclipsesKeptModel", "imageSeenNeed", "[I", true)
  | 53 => ("EclipsesKeptModel", "imageWorth", "[I", true)
  | 54 => ("EclipsesKeptModel", "imageWhen", "[I", true)
  | 55 => ("EclipsesKeptModel", "imageBookNeed", "[I", true)
  | 56 => ("EclipsesKeptModel", "imageBookServed", "[I", true)
  | 57 => ("EclipsesKeptModel", "ran", "I", false)
  | 58 => ("EclipsesKeptModel", "bodies", "[I", true)
  | 59 => ("EclipsesKeptModel", "sort", "[I", true)
  | 60 => ("EclipsesKeptModel", "length", "[I", true)
  | 61 => ("EclipsesKeptModel", "item", "[J", true)
  | _ => ("EclipsesKeptModel", "aside", "[J", true)
def tyX12 : Nat → FieldType := fun k => match k with
  | 0 => .int
  | 1 => .int
  | 2 => .int
  | 3 => .int
  | 4 => .array .int
  | 5 => .array .int
  | 6 => .array .int
  | 7 => .array .int
  | 8 => .int
  | 9 => .int
  | 10 => .int
  | 11 => .int
  | 12 => .int
  | 13 => .array .int
  | 14 => .array .int
  | 15 => .array .int
  | 16 => .array .int
  | 17 => .array .int
  | 18 => .array .int
  | 19 => .array .int
  | 20 => .array .int
  | 21 => .int
  | 22 => .int
  | 23 => .int
  | 24 => .array .int
  | 25 => .array .boolean
  | 26 => .array .long
  | 27 => .int
  | 28 => .array .long
  | 29 => .int
  | 30 => .array .int
  | 31 => .int
  | 32 => .int
  | 33 => .array .int
  | 34 => .array .int
  | 35 => .array .int
  | 36 => .array .int
  | 37 => .array .int
  | 38 => .boolean
  | 39 => .int
  | 40 => .int
  | 41 => .int
  | 42 => .int
  | 43 => .int
  | 44 => .int
  | 45 => .int
  | 46 => .int
  | 47 => .array .int
  | 48 => .array .int
  | 49 => .array .int
  | 50 => .array .int
  | 51 => .array .int
  | 52 => .array .int
  | 53 => .array .int
  | 54 => .array .int
  | 55 => .array .int
  | 56 => .array .int
  | 57 => .int
  | 58 => .array .int
  | 59 => .array .int
  | 60 => .array .int
  | 61 => .array .long
  | _ => .array .long
abbrev wsX120 : List Cond := u_ws RX12 TX12 63
theorem nmX12 : ∀ a, a < 63 → ∀ b, b < 63 → a ≠ b → (TX12 a).2.1 ≠ (TX12 b).2.1 := by decide +kernel
theorem tyX12_ok : ∀ k, k < 63 → parseFieldDescriptor (TX12 k).2.2.1 = some (tyX12 k) := by decide +kernel
abbrev cX12_init : ByteArray := prog_14_method_1_code
def yX12_init : MethodName := ⟨RX12, "<init>", "()V"⟩
abbrev cX12_in : ByteArray := prog_14_method_2_code
def yX12_in : MethodName := ⟨RX12, "in", "(III)Z"⟩
abbrev cX12_has : ByteArray := prog_14_method_3_code
def yX12_has : MethodName := ⟨RX12, "has", "(II)Z"⟩
abbrev cX12_bits : ByteArray := prog_14_method_4_code
def yX12_bits : MethodName := ⟨RX12, "bits", "(I)I"⟩
abbrev cX12_isNeed : ByteArray := prog_14_method_5_code
def yX12_isNeed : MethodName := ⟨RX12, "isNeed", "(I)Z"⟩
abbrev cX12_isDarks : ByteArray := prog_14_method_6_code
def yX12_isDarks : MethodName := ⟨RX12, "isDarks", "(I)Z"⟩
abbrev cX12_need : ByteArray := prog_14_method_7_code
def yX12_need : MethodName := ⟨RX12, "need", "(II)I"⟩
abbrev cX12_darks : ByteArray := prog_14_method_8_code
def yX12_darks : MethodName := ⟨RX12, "darks", "(I)I"⟩
abbrev cX12_row : ByteArray := prog_14_method_9_code
def yX12_row : MethodName := ⟨RX12, "row", "(III)I"⟩
abbrev cX12_feed : ByteArray := prog_14_method_10_code
def yX12_feed : MethodName := ⟨RX12, "feed", "(I)I"⟩
abbrev cX12_next : ByteArray := prog_14_method_11_code
def yX12_next : MethodName := ⟨RX12, "next", "()I"⟩
abbrev cX12_takes : ByteArray := prog_14_method_12_code
def yX12_takes : MethodName := ⟨RX12, "takes", "(I)Z"⟩
abbrev cX12_takesWord : ByteArray := prog_14_method_13_code
def yX12_takesWord : MethodName := ⟨RX12, "takesWord", "(II)Z"⟩
abbrev cX12_isDigit : ByteArray := prog_14_method_14_code
def yX12_isDigit : MethodName := ⟨RX12, "isDigit", "()Z"⟩
abbrev cX12_takesNumber : ByteArray := prog_14_method_15_code
def yX12_takesNumber : MethodName := ⟨RX12, "takesNumber", "()Z"⟩
abbrev cX12_emits : ByteArray := prog_14_method_16_code
def yX12_emits : MethodName := ⟨RX12, "emits", "(I)V"⟩
abbrev cX12_whole : ByteArray := prog_14_method_17_code
def yX12_whole : MethodName := ⟨RX12, "whole", "()V"⟩
abbrev cX12_settle : ByteArray := prog_14_method_18_code
def yX12_settle : MethodName := ⟨RX12, "settle", "(I)V"⟩
abbrev cX12_place : ByteArray := prog_14_method_19_code
def yX12_place : MethodName := ⟨RX12, "place", "(I)I"⟩
abbrev cX12_takesTest : ByteArray := prog_14_method_20_code
def yX12_takesTest : MethodName := ⟨RX12, "takesTest", "()Z"⟩
abbrev cX12_takesE : ByteArray := prog_14_method_21_code
def yX12_takesE : MethodName := ⟨RX12, "takesE", "(I)Z"⟩
abbrev cX12_takesHead : ByteArray := prog_14_method_22_code
def yX12_takesHead : MethodName := ⟨RX12, "takesHead", "(I)Z"⟩
abbrev cX12_takesClause : ByteArray := prog_14_method_23_code
def yX12_takesClause : MethodName := ⟨RX12, "takesClause", "(I)Z"⟩
abbrev cX12_goesText : ByteArray := prog_14_method_24_code
def yX12_goesText : MethodName := ⟨RX12, "goesText", "(I)Z"⟩
abbrev cX12_archive : ByteArray := prog_14_method_25_code
def yX12_archive : MethodName := ⟨RX12, "archive", "()I"⟩
abbrev cX12_begin : ByteArray := prog_14_method_26_code
def yX12_begin : MethodName := ⟨RX12, "begin", "()I"⟩
abbrev cX12_behind : ByteArray := prog_14_method_27_code
def yX12_behind : MethodName := ⟨RX12, "behind", "()I"⟩
abbrev cX12_keep : ByteArray := prog_14_method_28_code
def yX12_keep : MethodName := ⟨RX12, "keep", "()I"⟩
abbrev cX12_factOf : ByteArray := prog_14_method_29_code
def yX12_factOf : MethodName := ⟨RX12, "factOf", "(IIII)I"⟩
abbrev cX12_holds : ByteArray := prog_14_method_30_code
def yX12_holds : MethodName := ⟨RX12, "holds", "(IIII)Z"⟩
abbrev cX12_base : ByteArray := prog_14_method_31_code
def yX12_base : MethodName := ⟨RX12, "base", "(III)I"⟩
abbrev cX12_worthOf : ByteArray := prog_14_method_32_code
def yX12_worthOf : MethodName := ⟨RX12, "worthOf", "(III)I"⟩
abbrev cX12_of : ByteArray := prog_14_method_33_code
def yX12_of : MethodName := ⟨RX12, "of", "(II)I"⟩
abbrev cX12_worth : ByteArray := prog_14_method_34_code
def yX12_worth : MethodName := ⟨RX12, "worth", "(III)I"⟩
abbrev cX12_held : ByteArray := prog_14_method_35_code
def yX12_held : MethodName := ⟨RX12, "held", "(I)I"⟩
abbrev cX12_serve : ByteArray := prog_14_method_36_code
def yX12_serve : MethodName := ⟨RX12, "serve", "(I)I"⟩
abbrev cX12_spare : ByteArray := prog_14_method_37_code
def yX12_spare : MethodName := ⟨RX12, "spare", "(I)I"⟩
abbrev cX12_told : ByteArray := prog_14_method_38_code
def yX12_told : MethodName := ⟨RX12, "told", "(I)I"⟩
abbrev cX12_ways : ByteArray := prog_14_method_39_code
def yX12_ways : MethodName := ⟨RX12, "ways", "(I)J"⟩
abbrev cX12_ifServed : ByteArray := prog_14_method_40_code
def yX12_ifServed : MethodName := ⟨RX12, "ifServed", "(IIII)J"⟩
abbrev cX12_ifSpared : ByteArray := prog_14_method_41_code
def yX12_ifSpared : MethodName := ⟨RX12, "ifSpared", "(III)J"⟩
abbrev cX12_gainOf : ByteArray := prog_14_method_42_code
def yX12_gainOf : MethodName := ⟨RX12, "gainOf", "(IIIII)J"⟩
abbrev cX12_layGains : ByteArray := prog_14_method_43_code
def yX12_layGains : MethodName := ⟨RX12, "layGains", "(II)V"⟩
abbrev cX12_divisor : ByteArray := prog_14_method_44_code
def yX12_divisor : MethodName := ⟨RX12, "divisor", "(JJ)J"⟩
abbrev cX12_lowest : ByteArray := prog_14_method_45_code
def yX12_lowest : MethodName := ⟨RX12, "lowest", "(JJI)J"⟩
abbrev cX12_isYears : ByteArray := prog_14_method_46_code
def yX12_isYears : MethodName := ⟨RX12, "isYears", "(I)Z"⟩
abbrev cX12_isAsked : ByteArray := prog_14_method_47_code
def yX12_isAsked : MethodName := ⟨RX12, "isAsked", "(II)Z"⟩
abbrev cX12_mean : ByteArray := prog_14_method_48_code
def yX12_mean : MethodName := ⟨RX12, "mean", "(II)J"⟩
abbrev cX12_price : ByteArray := prog_14_method_49_code
def yX12_price : MethodName := ⟨RX12, "price", "(II)J"⟩
abbrev cX12_greedy : ByteArray := prog_14_method_50_code
def yX12_greedy : MethodName := ⟨RX12, "greedy", "(II)J"⟩
abbrev cX12_only : ByteArray := prog_14_method_51_code
def yX12_only : MethodName := ⟨RX12, "only", "(III)J"⟩
abbrev cX12_chosen : ByteArray := prog_14_method_52_code
def yX12_chosen : MethodName := ⟨RX12, "chosen", "(I)I"⟩
abbrev cX12_wise : ByteArray := prog_14_method_53_code
def yX12_wise : MethodName := ⟨RX12, "wise", "(II)I"⟩
abbrev cX12_spent : ByteArray := prog_14_method_54_code
def yX12_spent : MethodName := ⟨RX12, "spent", "(II)J"⟩
abbrev cX12_threshold : ByteArray := prog_14_method_55_code
def yX12_threshold : MethodName := ⟨RX12, "threshold", "(I)I"⟩
abbrev cX12_century : ByteArray := prog_14_method_56_code
def yX12_century : MethodName := ⟨RX12, "century", "(I)I"⟩
abbrev cX12_gainBy : ByteArray := prog_14_method_57_code
def yX12_gainBy : MethodName := ⟨RX12, "gainBy", "(I)I"⟩
abbrev cX12_bestSet : ByteArray := prog_14_method_58_code
def yX12_bestSet : MethodName := ⟨RX12, "bestSet", "()I"⟩
abbrev cX12_plan : ByteArray := prog_14_method_59_code
def yX12_plan : MethodName := ⟨RX12, "plan", "(I)I"⟩
abbrev cX12_ends : ByteArray := prog_14_method_60_code
def yX12_ends : MethodName := ⟨RX12, "ends", "(I)I"⟩
abbrev cX12_see : ByteArray := prog_14_method_61_code
def yX12_see : MethodName := ⟨RX12, "see", "(III)I"⟩
abbrev cX12_isSeen : ByteArray := prog_14_method_62_code
def yX12_isSeen : MethodName := ⟨RX12, "isSeen", "(I)Z"⟩
abbrev cX12_can : ByteArray := prog_14_method_63_code
def yX12_can : MethodName := ⟨RX12, "can", "(II)I"⟩
abbrev cX12_darked : ByteArray := prog_14_method_64_code
def yX12_darked : MethodName := ⟨RX12, "darked", "(I)I"⟩
abbrev cX12_book : ByteArray := prog_14_method_65_code
def yX12_book : MethodName := ⟨RX12, "book", "(II)I"⟩
abbrev cX12_looked : ByteArray := prog_14_method_66_code
def yX12_looked : MethodName := ⟨RX12, "looked", "()I"⟩
abbrev cX12_judge : ByteArray := prog_14_method_67_code
def yX12_judge : MethodName := ⟨RX12, "judge", "(II)I"⟩
abbrev cX12_image : ByteArray := prog_14_method_68_code
def yX12_image : MethodName := ⟨RX12, "image", "()I"⟩
abbrev cX12_undo : ByteArray := prog_14_method_69_code
def yX12_undo : MethodName := ⟨RX12, "undo", "()I"⟩
abbrev cX12_body : ByteArray := prog_14_method_70_code
def yX12_body : MethodName := ⟨RX12, "body", "(I)V"⟩
abbrev cX12_needDarkens : ByteArray := prog_14_method_71_code
def yX12_needDarkens : MethodName := ⟨RX12, "needDarkens", "(II)I"⟩
abbrev cX12_darkensAct : ByteArray := prog_14_method_72_code
def yX12_darkensAct : MethodName := ⟨RX12, "darkensAct", "(II)I"⟩
abbrev cX12_needPleads : ByteArray := prog_14_method_73_code
def yX12_needPleads : MethodName := ⟨RX12, "needPleads", "(II)I"⟩
abbrev cX12_siegePleads : ByteArray := prog_14_method_74_code
def yX12_siegePleads : MethodName := ⟨RX12, "siegePleads", "(II)I"⟩
abbrev cX12_pleadsAct : ByteArray := prog_14_method_75_code
def yX12_pleadsAct : MethodName := ⟨RX12, "pleadsAct", "(II)I"⟩
abbrev cX12_needTells : ByteArray := prog_14_method_76_code
def yX12_needTells : MethodName := ⟨RX12, "needTells", "(II)I"⟩
abbrev cX12_tellsAct : ByteArray := prog_14_method_77_code
def yX12_tellsAct : MethodName := ⟨RX12, "tellsAct", "(II)I"⟩
abbrev cX12_act : ByteArray := prog_14_method_78_code
def yX12_act : MethodName := ⟨RX12, "act", "(III)I"⟩
abbrev cX12_trace : ByteArray := prog_14_method_79_code
def yX12_trace : MethodName := ⟨RX12, "trace", "(I)I"⟩
abbrev cX12_taken : ByteArray := prog_14_method_80_code
def yX12_taken : MethodName := ⟨RX12, "taken", "(II)I"⟩
abbrev cX12_count : ByteArray := prog_14_method_81_code
def yX12_count : MethodName := ⟨RX12, "count", "(I)I"⟩
abbrev cX12_isTape : ByteArray := prog_14_method_82_code
def yX12_isTape : MethodName := ⟨RX12, "isTape", "(I)Z"⟩
abbrev cX12_tape : ByteArray := prog_14_method_83_code
def yX12_tape : MethodName := ⟨RX12, "tape", "(III)I"⟩
abbrev cX12_narrow : ByteArray := prog_14_method_84_code
def yX12_narrow : MethodName := ⟨RX12, "narrow", "(IJ)J"⟩
abbrev cX12_item : ByteArray := prog_14_method_85_code
def yX12_item : MethodName := ⟨RX12, "item", "(IIJ)I"⟩
abbrev cX12_read : ByteArray := prog_14_method_86_code
def yX12_read : MethodName := ⟨RX12, "read", "(II)J"⟩
abbrev cX12_shift : ByteArray := prog_14_method_87_code
def yX12_shift : MethodName := ⟨RX12, "shift", "(IIIII)I"⟩
def RJ5 : String := "java/lang/AbstractStringBuilder"
def TJ5 : u_T := fun k => match k with
  | _ => ("", "", "", false)
def tyJ5 : Nat → FieldType := fun k => match k with
  | _ => .int
abbrev wsJ50 : List Cond := u_ws RJ5 TJ5 0
theorem nmJ5 : ∀ a, a < 0 → ∀ b, b < 0 → a ≠ b → (TJ5 a).2.1 ≠ (TJ5 b).2.1 := by decide +kernel
theorem tyJ5_ok : ∀ k, k < 0 → parseFieldDescriptor (TJ5 k).2.2.1 = some (tyJ5 k) := by decide +kernel
abbrev cJ5_init_d00df : ByteArray := prog_15_method_2_code
def yJ5_init_d00df : MethodName := ⟨RJ5, "<init>", "(I)V"⟩
abbrev cJ5_length_8abf5 : ByteArray := prog_15_method_6_code
def yJ5_length_8abf5 : MethodName := ⟨RJ5, "length", "()I"⟩
abbrev cJ5_ensureCapacityInternal_d00df : ByteArray := prog_15_method_9_code
def yJ5_ensureCapacityInternal_d00df : MethodName := ⟨RJ5, "ensureCapacityInternal", "(I)V"⟩
abbrev cJ5_newCapacity_0f7a4 : ByteArray := prog_15_method_10_code
def yJ5_newCapacity_0f7a4 : MethodName := ⟨RJ5, "newCapacity", "(I)I"⟩
abbrev cJ5_inflate_da8c8 : ByteArray := prog_15_method_11_code
def yJ5_inflate_da8c8 : MethodName := ⟨RJ5, "inflate", "()V"⟩
abbrev cJ5_setLength_d00df : ByteArray := prog_15_method_13_code
def yJ5_setLength_d00df : MethodName := ⟨RJ5, "setLength", "(I)V"⟩
abbrev cJ5_append_3fe6f : ByteArray := prog_15_method_31_code
def yJ5_append_3fe6f : MethodName := ⟨RJ5, "append", "(C)Ljava/lang/AbstractStringBuilder;"⟩
abbrev cJ5_getValue_6d5f1 : ByteArray := prog_15_method_64_code
def yJ5_getValue_6d5f1 : MethodName := ⟨RJ5, "getValue", "()[B"⟩
abbrev cJ5_isLatin1_aae02 : ByteArray := prog_15_method_68_code
def yJ5_isLatin1_aae02 : MethodName := ⟨RJ5, "isLatin1", "()Z"⟩
def RJ11 : String := "java/lang/Character"
def TJ11 : u_T := fun k => match k with
  | _ => ("", "", "", false)
def tyJ11 : Nat → FieldType := fun k => match k with
  | _ => .int
abbrev wsJ110 : List Cond := u_ws RJ11 TJ11 0
theorem nmJ11 : ∀ a, a < 0 → ∀ b, b < 0 → a ≠ b → (TJ11 a).2.1 ≠ (TJ11 b).2.1 := by decide +kernel
theorem tyJ11_ok : ∀ k, k < 0 → parseFieldDescriptor (TJ11 k).2.2.1 = some (tyJ11 k) := by decide +kernel
abbrev cJ11_isValidCodePoint_9a6ad : ByteArray := prog_16_method_11_code
def yJ11_isValidCodePoint_9a6ad : MethodName := ⟨RJ11, "isValidCodePoint", "(I)Z"⟩
abbrev cJ11_highSurrogate_5068e : ByteArray := prog_16_method_28_code
def yJ11_highSurrogate_5068e : MethodName := ⟨RJ11, "highSurrogate", "(I)C"⟩
abbrev cJ11_lowSurrogate_5068e : ByteArray := prog_16_method_29_code
def yJ11_lowSurrogate_5068e : MethodName := ⟨RJ11, "lowSurrogate", "(I)C"⟩
def RJx8e188 : String := "java/lang/Cloneable"
def TJx8e188 : u_T := fun k => match k with
  | _ => ("", "", "", false)
def tyJx8e188 : Nat → FieldType := fun k => match k with
  | _ => .int
abbrev wsJx8e1880 : List Cond := u_ws RJx8e188 TJx8e188 0
theorem nmJx8e188 : ∀ a, a < 0 → ∀ b, b < 0 → a ≠ b → (TJx8e188 a).2.1 ≠ (TJx8e188 b).2.1 := by decide +kernel
theorem tyJx8e188_ok : ∀ k, k < 0 → parseFieldDescriptor (TJx8e188 k).2.2.1 = some (tyJx8e188 k) := by decide +kernel
def RJ6 : String := "java/lang/Integer"
def TJ6 : u_T := fun k => match k with
  | _ => ("", "", "", false)
def tyJ6 : Nat → FieldType := fun k => match k with
  | _ => .int
abbrev wsJ60 : List Cond := u_ws RJ6 TJ6 0
theorem nmJ6 : ∀ a, a < 0 → ∀ b, b < 0 → a ≠ b → (TJ6 a).2.1 ≠ (TJ6 b).2.1 := by decide +kernel
theorem tyJ6_ok : ∀ k, k < 0 → parseFieldDescriptor (TJ6 k).2.2.1 = some (tyJ6 k) := by decide +kernel
abbrev cJ6_bitCount_0f7a4 : ByteArray := prog_18_method_49_code
def yJ6_bitCount_0f7a4 : MethodName := ⟨RJ6, "bitCount", "(I)I"⟩
def RJ9 : String := "java/lang/Math"
def TJ9 : u_T := fun k => match k with
  | _ => ("", "", "", false)
def tyJ9 : Nat → FieldType := fun k => match k with
  | _ => .int
abbrev wsJ90 : List Cond := u_ws RJ9 TJ9 0
theorem nmJ9 : ∀ a, a < 0 → ∀ b, b < 0 → a ≠ b → (TJ9 a).2.1 ≠ (TJ9 b).2.1 := by decide +kernel
theorem tyJ9_ok : ∀ k, k < 0 → parseFieldDescriptor (TJ9 k).2.2.1 = some (tyJ9 k) := by decide +kernel
abbrev cJ9_floorDiv_f86c9 : ByteArray := prog_19_method_49_code
def yJ9_floorDiv_f86c9 : MethodName := ⟨RJ9, "floorDiv", "(JJ)J"⟩
abbrev cJ9_floorMod_7cf53 : ByteArray := prog_19_method_50_code
def yJ9_floorMod_7cf53 : MethodName := ⟨RJ9, "floorMod", "(II)I"⟩
abbrev cJ9_abs_067f4 : ByteArray := prog_19_method_61_code
def yJ9_abs_067f4 : MethodName := ⟨RJ9, "abs", "(J)J"⟩
abbrev cJ9_max_7cf53 : ByteArray := prog_19_method_65_code
def yJ9_max_7cf53 : MethodName := ⟨RJ9, "max", "(II)I"⟩
abbrev cJ9_max_f86c9 : ByteArray := prog_19_method_66_code
def yJ9_max_f86c9 : MethodName := ⟨RJ9, "max", "(JJ)J"⟩
abbrev cJ9_min_7cf53 : ByteArray := prog_19_method_69_code
def yJ9_min_7cf53 : MethodName := ⟨RJ9, "min", "(II)I"⟩
def RJ0 : String := "java/lang/String"
def TJ0 : u_T := fun k => match k with
  | 0 => ("java/lang/String", "value", "[B", true)
  | 1 => ("java/lang/String", "coder", "B", true)
  | 2 => ("java/lang/String", "hash", "I", false)
  | _ => ("java/lang/String", "hashIsZero", "Z", false)
def tyJ0 : Nat → FieldType := fun k => match k with
  | 0 => .array .byte
  | 1 => .byte
  | 2 => .int
  | _ => .boolean
abbrev wsJ00 : List Cond := u_ws RJ0 TJ0 4
theorem nmJ0 : ∀ a, a < 4 → ∀ b, b < 4 → a ≠ b → (TJ0 a).2.1 ≠ (TJ0 b).2.1 := by decide +kernel
theorem tyJ0_ok : ∀ k, k < 4 → parseFieldDescriptor (TJ0 k).2.2.1 = some (tyJ0 k) := by decide +kernel
abbrev cJ0_init_81219 : ByteArray := prog_20_method_53_code
def yJ0_init_81219 : MethodName := ⟨RJ0, "<init>", "(Ljava/lang/StringBuilder;)V"⟩
abbrev cJ0_length_8abf5 : ByteArray := prog_20_method_54_code
def yJ0_length_8abf5 : MethodName := ⟨RJ0, "length", "()I"⟩
abbrev cJ0_charAt_5068e : ByteArray := prog_20_method_56_code
def yJ0_charAt_5068e : MethodName := ⟨RJ0, "charAt", "(I)C"⟩
abbrev cJ0_indexOf_0f7a4 : ByteArray := prog_20_method_79_code
def yJ0_indexOf_0f7a4 : MethodName := ⟨RJ0, "indexOf", "(I)I"⟩
abbrev cJ0_indexOf_7cf53 : ByteArray := prog_20_method_80_code
def yJ0_indexOf_7cf53 : MethodName := ⟨RJ0, "indexOf", "(II)I"⟩
abbrev cJ0_init_db425 : ByteArray := prog_20_method_150_code
def yJ0_init_db425 : MethodName := ⟨RJ0, "<init>", "(Ljava/lang/AbstractStringBuilder;Ljava/lang/Void;)V"⟩
abbrev cJ0_coder_7d493 : ByteArray := prog_20_method_152_code
def yJ0_coder_7d493 : MethodName := ⟨RJ0, "coder", "()B"⟩
abbrev cJ0_isLatin1_aae02 : ByteArray := prog_20_method_154_code
def yJ0_isLatin1_aae02 : MethodName := ⟨RJ0, "isLatin1", "()Z"⟩
abbrev cJ0_checkIndex_df160 : ByteArray := prog_20_method_155_code
def yJ0_checkIndex_df160 : MethodName := ⟨RJ0, "checkIndex", "(II)V"⟩
abbrev cJ0_checkBoundsOffCount_cabcc : ByteArray := prog_20_method_157_code
def yJ0_checkBoundsOffCount_cabcc : MethodName := ⟨RJ0, "checkBoundsOffCount", "(III)I"⟩
abbrev cJ0_checkBoundsBeginEnd_23922 : ByteArray := prog_20_method_158_code
def yJ0_checkBoundsBeginEnd_23922 : MethodName := ⟨RJ0, "checkBoundsBeginEnd", "(III)V"⟩
def RJ4 : String := "java/lang/StringBuilder"
def TJ4 : u_T := fun k => match k with
  | 0 => ("java/lang/AbstractStringBuilder", "value", "[B", false)
  | 1 => ("java/lang/AbstractStringBuilder", "coder", "B", false)
  | 2 => ("java/lang/AbstractStringBuilder", "maybeLatin1", "Z", false)
  | _ => ("java/lang/AbstractStringBuilder", "count", "I", false)
def tyJ4 : Nat → FieldType := fun k => match k with
  | 0 => .array .byte
  | 1 => .byte
  | 2 => .boolean
  | _ => .int
abbrev wsJ40 : List Cond := u_ws RJ4 TJ4 4
theorem nmJ4 : ∀ a, a < 4 → ∀ b, b < 4 → a ≠ b → (TJ4 a).2.1 ≠ (TJ4 b).2.1 := by decide +kernel
theorem tyJ4_ok : ∀ k, k < 4 → parseFieldDescriptor (TJ4 k).2.2.1 = some (tyJ4 k) := by decide +kernel
abbrev cJ4_init_da8c8 : ByteArray := prog_21_method_1_code
def yJ4_init_da8c8 : MethodName := ⟨RJ4, "<init>", "()V"⟩
abbrev cJ4_append_cf468 : ByteArray := prog_21_method_14_code
def yJ4_append_cf468 : MethodName := ⟨RJ4, "append", "(C)Ljava/lang/StringBuilder;"⟩
abbrev cJ4_toString_0e30d : ByteArray := prog_21_method_42_code
def yJ4_toString_0e30d : MethodName := ⟨RJ4, "toString", "()Ljava/lang/String;"⟩
abbrev cJ4_setLength_d00df : ByteArray := prog_21_method_89_code
def yJ4_setLength_d00df : MethodName := ⟨RJ4, "setLength", "(I)V"⟩
abbrev cJ4_length_8abf5 : ByteArray := prog_21_method_93_code
def yJ4_length_8abf5 : MethodName := ⟨RJ4, "length", "()I"⟩
def RJ1 : String := "java/lang/StringLatin1"
def TJ1 : u_T := fun k => match k with
  | _ => ("", "", "", false)
def tyJ1 : Nat → FieldType := fun k => match k with
  | _ => .int
abbrev wsJ10 : List Cond := u_ws RJ1 TJ1 0
theorem nmJ1 : ∀ a, a < 0 → ∀ b, b < 0 → a ≠ b → (TJ1 a).2.1 ≠ (TJ1 b).2.1 := by decide +kernel
theorem tyJ1_ok : ∀ k, k < 0 → parseFieldDescriptor (TJ1 k).2.2.1 = some (tyJ1 k) := by decide +kernel
abbrev cJ1_charAt_3b067 : ByteArray := prog_22_method_2_code
def yJ1_charAt_3b067 : MethodName := ⟨RJ1, "charAt", "([BI)C"⟩
abbrev cJ1_canEncode_fc78d : ByteArray := prog_22_method_3_code
def yJ1_canEncode_fc78d : MethodName := ⟨RJ1, "canEncode", "(C)Z"⟩
abbrev cJ1_canEncode_9a6ad : ByteArray := prog_22_method_4_code
def yJ1_canEncode_9a6ad : MethodName := ⟨RJ1, "canEncode", "(I)Z"⟩
abbrev cJ1_indexOf_4cfef : ByteArray := prog_22_method_22_code
def yJ1_indexOf_4cfef : MethodName := ⟨RJ1, "indexOf", "([BIII)I"⟩
abbrev cJ1_indexOfChar_4cfef : ByteArray := prog_22_method_23_code
def yJ1_indexOfChar_4cfef : MethodName := ⟨RJ1, "indexOfChar", "([BIII)I"⟩
abbrev cJ1_fillNull_b72d1 : ByteArray := prog_22_method_48_code
def yJ1_fillNull_b72d1 : MethodName := ⟨RJ1, "fillNull", "([BII)V"⟩
abbrev cJ1_inflate_0e8fd : ByteArray := prog_22_method_50_code
def yJ1_inflate_0e8fd : MethodName := ⟨RJ1, "inflate", "([BI[BII)V"⟩
def RJ2 : String := "java/lang/StringUTF16"
def TJ2 : u_T := fun k => match k with
  | _ => ("", "", "", false)
def tyJ2 : Nat → FieldType := fun k => match k with
  | _ => .int
abbrev wsJ20 : List Cond := u_ws RJ2 TJ2 0
theorem nmJ2 : ∀ a, a < 0 → ∀ b, b < 0 → a ≠ b → (TJ2 a).2.1 ≠ (TJ2 b).2.1 := by decide +kernel
theorem tyJ2_ok : ∀ k, k < 0 → parseFieldDescriptor (TJ2 k).2.2.1 = some (tyJ2 k) := by decide +kernel
abbrev cJ2_newBytesFor_77867 : ByteArray := prog_23_method_2_code
def yJ2_newBytesFor_77867 : MethodName := ⟨RJ2, "newBytesFor", "(I)[B"⟩
abbrev cJ2_newBytesLength_0f7a4 : ByteArray := prog_23_method_3_code
def yJ2_newBytesLength_0f7a4 : MethodName := ⟨RJ2, "newBytesLength", "(I)I"⟩
abbrev cJ2_putChar_b72d1 : ByteArray := prog_23_method_4_code
def yJ2_putChar_b72d1 : MethodName := ⟨RJ2, "putChar", "([BII)V"⟩
abbrev cJ2_getChar_3b067 : ByteArray := prog_23_method_5_code
def yJ2_getChar_3b067 : MethodName := ⟨RJ2, "getChar", "([BI)C"⟩
abbrev cJ2_length_9d52b : ByteArray := prog_23_method_6_code
def yJ2_length_9d52b : MethodName := ⟨RJ2, "length", "([B)I"⟩
abbrev cJ2_coderFromArrayLen_85cad : ByteArray := prog_23_method_15_code
def yJ2_coderFromArrayLen_85cad : MethodName := ⟨RJ2, "coderFromArrayLen", "([BI)B"⟩
abbrev cJ2_compress_39247 : ByteArray := prog_23_method_17_code
def yJ2_compress_39247 : MethodName := ⟨RJ2, "compress", "([BII)[B"⟩
abbrev cJ2_compress_5af95 : ByteArray := prog_23_method_22_code
def yJ2_compress_5af95 : MethodName := ⟨RJ2, "compress", "([BI[BII)I"⟩
abbrev cJ2_indexOf_4cfef : ByteArray := prog_23_method_40_code
def yJ2_indexOf_4cfef : MethodName := ⟨RJ2, "indexOf", "([BIII)I"⟩
abbrev cJ2_indexOfChar_4cfef : ByteArray := prog_23_method_47_code
def yJ2_indexOfChar_4cfef : MethodName := ⟨RJ2, "indexOfChar", "([BIII)I"⟩
abbrev cJ2_indexOfCharUnsafe_4cfef : ByteArray := prog_23_method_48_code
def yJ2_indexOfCharUnsafe_4cfef : MethodName := ⟨RJ2, "indexOfCharUnsafe", "([BIII)I"⟩
abbrev cJ2_indexOfSupplementary_4cfef : ByteArray := prog_23_method_49_code
def yJ2_indexOfSupplementary_4cfef : MethodName := ⟨RJ2, "indexOfSupplementary", "([BIII)I"⟩
abbrev cJ2_fillNull_b72d1 : ByteArray := prog_23_method_70_code
def yJ2_fillNull_b72d1 : MethodName := ⟨RJ2, "fillNull", "([BII)V"⟩
abbrev cJ2_putCharSB_b72d1 : ByteArray := prog_23_method_71_code
def yJ2_putCharSB_b72d1 : MethodName := ⟨RJ2, "putCharSB", "([BII)V"⟩
abbrev cJ2_charAt_3b067 : ByteArray := prog_23_method_83_code
def yJ2_charAt_3b067 : MethodName := ⟨RJ2, "charAt", "([BI)C"⟩
abbrev cJ2_inflate_0e8fd : ByteArray := prog_23_method_86_code
def yJ2_inflate_0e8fd : MethodName := ⟨RJ2, "inflate", "([BI[BII)V"⟩
abbrev cJ2_checkIndex_2214a : ByteArray := prog_23_method_91_code
def yJ2_checkIndex_2214a : MethodName := ⟨RJ2, "checkIndex", "(I[B)V"⟩
abbrev cJ2_checkBoundsBeginEnd_d044e : ByteArray := prog_23_method_93_code
def yJ2_checkBoundsBeginEnd_d044e : MethodName := ⟨RJ2, "checkBoundsBeginEnd", "(II[B)V"⟩
abbrev cJ2_checkBoundsOffCount_d044e : ByteArray := prog_23_method_94_code
def yJ2_checkBoundsOffCount_d044e : MethodName := ⟨RJ2, "checkBoundsOffCount", "(II[B)V"⟩
def RJ10 : String := "java/lang/System"
def TJ10 : u_T := fun k => match k with
  | _ => ("", "", "", false)
def tyJ10 : Nat → FieldType := fun k => match k with
  | _ => .int
abbrev wsJ100 : List Cond := u_ws RJ10 TJ10 0
theorem nmJ10 : ∀ a, a < 0 → ∀ b, b < 0 → a ≠ b → (TJ10 a).2.1 ≠ (TJ10 b).2.1 := by decide +kernel
theorem tyJ10_ok : ∀ k, k < 0 → parseFieldDescriptor (TJ10 k).2.2.1 = some (tyJ10 k) := by decide +kernel
def RJ7 : String := "java/util/Arrays"
def TJ7 : u_T := fun k => match k with
  | _ => ("", "", "", false)
def tyJ7 : Nat → FieldType := fun k => match k with
  | _ => .int
abbrev wsJ70 : List Cond := u_ws RJ7 TJ7 0
theorem nmJ7 : ∀ a, a < 0 → ∀ b, b < 0 → a ≠ b → (TJ7 a).2.1 ≠ (TJ7 b).2.1 := by decide +kernel
theorem tyJ7_ok : ∀ k, k < 0 → parseFieldDescriptor (TJ7 k).2.2.1 = some (tyJ7 k) := by decide +kernel
abbrev cJ7_rangeCheck_23922 : ByteArray := prog_25_method_30_code
def yJ7_rangeCheck_23922 : MethodName := ⟨RJ7, "rangeCheck", "(III)V"⟩
abbrev cJ7_fill_eb02e : ByteArray := prog_25_method_110_code
def yJ7_fill_eb02e : MethodName := ⟨RJ7, "fill", "([BIIB)V"⟩
abbrev cJ7_copyOf_9075b : ByteArray := prog_25_method_121_code
def yJ7_copyOf_9075b : MethodName := ⟨RJ7, "copyOf", "([BI)[B"⟩
abbrev cJ7_checkLength_df160 : ByteArray := prog_25_method_131_code
def yJ7_checkLength_df160 : MethodName := ⟨RJ7, "checkLength", "(II)V"⟩
abbrev cJ7_copyOfRange_39247 : ByteArray := prog_25_method_132_code
def yJ7_copyOfRange_39247 : MethodName := ⟨RJ7, "copyOfRange", "([BII)[B"⟩
abbrev cJ7_copyOfRangeByte_39247 : ByteArray := prog_25_method_133_code
def yJ7_copyOfRangeByte_39247 : MethodName := ⟨RJ7, "copyOfRangeByte", "([BII)[B"⟩
def RJ8 : String := "jdk/internal/util/ArraysSupport"
def TJ8 : u_T := fun k => match k with
  | _ => ("", "", "", false)
def tyJ8 : Nat → FieldType := fun k => match k with
  | _ => .int
abbrev wsJ80 : List Cond := u_ws RJ8 TJ8 0
theorem nmJ8 : ∀ a, a < 0 → ∀ b, b < 0 → a ≠ b → (TJ8 a).2.1 ≠ (TJ8 b).2.1 := by decide +kernel
theorem tyJ8_ok : ∀ k, k < 0 → parseFieldDescriptor (TJ8 k).2.2.1 = some (tyJ8 k) := by decide +kernel
abbrev cJ8_newLength_cabcc : ByteArray := prog_26_method_27_code
def yJ8_newLength_cabcc : MethodName := ⟨RJ8, "newLength", "(III)I"⟩
abbrev cJ8_hugeLength_7cf53 : ByteArray := prog_26_method_28_code
def yJ8_hugeLength_7cf53 : MethodName := ⟨RJ8, "hugeLength", "(II)I"⟩
def RJ3 : String := "jdk/internal/util/Preconditions"
def TJ3 : u_T := fun k => match k with
  | _ => ("", "", "", false)
def tyJ3 : Nat → FieldType := fun k => match k with
  | _ => .int
abbrev wsJ30 : List Cond := u_ws RJ3 TJ3 0
theorem nmJ3 : ∀ a, a < 0 → ∀ b, b < 0 → a ≠ b → (TJ3 a).2.1 ≠ (TJ3 b).2.1 := by decide +kernel
theorem tyJ3_ok : ∀ k, k < 0 → parseFieldDescriptor (TJ3 k).2.2.1 = some (tyJ3 k) := by decide +kernel
abbrev cJ3_checkIndex_8e157 : ByteArray := prog_27_method_11_code
def yJ3_checkIndex_8e157 : MethodName := ⟨RJ3, "checkIndex", "(IILjava/util/function/BiFunction;)I"⟩
abbrev cJ3_checkFromToIndex_8c36e : ByteArray := prog_27_method_12_code
def yJ3_checkFromToIndex_8c36e : MethodName := ⟨RJ3, "checkFromToIndex", "(IIILjava/util/function/BiFunction;)I"⟩
abbrev cJ3_checkFromIndexSize_8c36e : ByteArray := prog_27_method_13_code
def yJ3_checkFromIndexSize_8c36e : MethodName := ⟨RJ3, "checkFromIndexSize", "(IIILjava/util/function/BiFunction;)I"⟩
def RL : String := "EclipsesKeptLaw"
abbrev cL_law : ByteArray := code
def yL_law : MethodName := ⟨RL, "law", "([I)Z"⟩
def wsX12_init_r1 : List Cond := [Cond.methodLink RX12 1 objectInit, Cond.instanceMethod objectInit, Cond.code objectInit ⟨#[0xb1]⟩ 1 none, Cond.fieldLink RX12 7 "EclipsesKeptModel" "needs" "I", Cond.fieldLink RX12 13 "EclipsesKeptModel" "dark" "I", Cond.fieldLink RX12 16 "EclipsesKeptModel" "glory" "I", Cond.fieldLink RX12 19 "EclipsesKeptModel" "year" "I", Cond.arrayClass .int, Cond.fieldLink RX12 22 "EclipsesKeptModel" "kind" "[I", Cond.fieldLink RX12 26 "EclipsesKeptModel" "v" "[I", Cond.fieldLink RX12 29 "EclipsesKeptModel" "served" "[I", Cond.fieldLink RX12 32 "EclipsesKeptModel" "rows" "[I", Cond.fieldLink RX12 35 "EclipsesKeptModel" "archives" "I", Cond.fieldLink RX12 38 "EclipsesKeptModel" "the" "I", Cond.fieldLink RX12 41 "EclipsesKeptModel" "fed" "I", Cond.fieldLink RX12 44 "EclipsesKeptModel" "at" "I", Cond.fieldLink RX12 47 "EclipsesKeptModel" "digits" "I", Cond.fieldLink RX12 50 "EclipsesKeptModel" "text" "[I", Cond.fieldLink RX12 53 "EclipsesKeptModel" "clauses" "[I", Cond.fieldLink RX12 56 "EclipsesKeptModel" "word" "[I", Cond.fieldLink RX12 59 "EclipsesKeptModel" "number" "[I", Cond.fieldLink RX12 62 "EclipsesKeptModel" "from" "[I", Cond.fieldLink RX12 65 "EclipsesKeptModel" "to" "[I", Cond.fieldLink RX12 68 "EclipsesKeptModel" "sign" "[I"]
def wsX12_init_r2 : List Cond := [Cond.fieldLink RX12 71 "EclipsesKeptModel" "waits" "[I", Cond.fieldLink RX12 74 "EclipsesKeptModel" "signs" "I", Cond.fieldLink RX12 77 "EclipsesKeptModel" "waiting" "I", Cond.fieldLink RX12 80 "EclipsesKeptModel" "open" "I", Cond.fieldLink RX12 83 "EclipsesKeptModel" "letters" "[I", Cond.arrayClass .boolean, Cond.fieldLink RX12 86 "EclipsesKeptModel" "pile" "[Z", Cond.arrayClass .long, Cond.fieldLink RX12 90 "EclipsesKeptModel" "gain" "[J", Cond.fieldLink RX12 94 "EclipsesKeptModel" "chosenSet" "I", Cond.fieldLink RX12 97 "EclipsesKeptModel" "out" "[J", Cond.fieldLink RX12 100 "EclipsesKeptModel" "comes" "I", Cond.fieldLink RX12 103 "EclipsesKeptModel" "comesNeed" "[I", Cond.fieldLink RX12 106 "EclipsesKeptModel" "seen" "I", Cond.fieldLink RX12 109 "EclipsesKeptModel" "books" "I", Cond.fieldLink RX12 112 "EclipsesKeptModel" "seenNeed" "[I", Cond.fieldLink RX12 115 "EclipsesKeptModel" "seenWorth" "[I", Cond.fieldLink RX12 118 "EclipsesKeptModel" "seenWhen" "[I", Cond.fieldLink RX12 121 "EclipsesKeptModel" "bookNeed" "[I", Cond.fieldLink RX12 124 "EclipsesKeptModel" "bookServed" "[I", Cond.fieldLink RX12 127 "EclipsesKeptModel" "hasImage" "Z", Cond.fieldLink RX12 131 "EclipsesKeptModel" "imageThe" "I", Cond.fieldLink RX12 134 "EclipsesKeptModel" "imageNeeds" "I", Cond.fieldLink RX12 137 "EclipsesKeptModel" "imageDark" "I"]
def wsX12_init_r3 : List Cond := [Cond.fieldLink RX12 140 "EclipsesKeptModel" "imageGlory" "I", Cond.fieldLink RX12 143 "EclipsesKeptModel" "imageYear" "I", Cond.fieldLink RX12 146 "EclipsesKeptModel" "imageComes" "I", Cond.fieldLink RX12 149 "EclipsesKeptModel" "imageSeen" "I", Cond.fieldLink RX12 152 "EclipsesKeptModel" "imageBooks" "I", Cond.fieldLink RX12 155 "EclipsesKeptModel" "imageKind" "[I", Cond.fieldLink RX12 158 "EclipsesKeptModel" "imageV" "[I", Cond.fieldLink RX12 161 "EclipsesKeptModel" "imageServed" "[I", Cond.fieldLink RX12 164 "EclipsesKeptModel" "imageRows" "[I", Cond.fieldLink RX12 167 "EclipsesKeptModel" "imageComesNeed" "[I", Cond.fieldLink RX12 170 "EclipsesKeptModel" "imageSeenNeed" "[I", Cond.fieldLink RX12 173 "EclipsesKeptModel" "imageWorth" "[I", Cond.fieldLink RX12 176 "EclipsesKeptModel" "imageWhen" "[I", Cond.fieldLink RX12 179 "EclipsesKeptModel" "imageBookNeed" "[I", Cond.fieldLink RX12 182 "EclipsesKeptModel" "imageBookServed" "[I", Cond.fieldLink RX12 185 "EclipsesKeptModel" "ran" "I", Cond.fieldLink RX12 188 "EclipsesKeptModel" "bodies" "[I", Cond.fieldLink RX12 191 "EclipsesKeptModel" "sort" "[I", Cond.fieldLink RX12 194 "EclipsesKeptModel" "length" "[I", Cond.fieldLink RX12 197 "EclipsesKeptModel" "item" "[J", Cond.fieldLink RX12 200 "EclipsesKeptModel" "aside" "[J"]
def wsX12_init : List Cond := .code yX12_init cX12_init 1 none :: ((wsX12_init_r1 ++ (wsX12_init_r2 ++ wsX12_init_r3)) ++ wsX120)
def wsX12_in : List Cond := .code yX12_in cX12_in 4 (some .boolean) :: ([])
def wsX12_has : List Cond := .code yX12_has cX12_has 3 (some .boolean) :: ([])
def wsX12_bits : List Cond := .code yX12_bits cX12_bits 4 (some .int) :: ([.methodLink RX12 203 yX12_has, .instanceMethod yX12_has, .selects RX12 yX12_has yX12_has, .initialized RX12, .code yX12_has cX12_has 3 (some .boolean)])
def wsX12_isNeed : List Cond := .code yX12_isNeed cX12_isNeed 2 (some .boolean) :: ([.fieldLink RX12 7 "EclipsesKeptModel" "needs" "I", .methodLink RX12 207 yX12_in, .instanceMethod yX12_in, .selects RX12 yX12_in yX12_in, .initialized RX12, .code yX12_in cX12_in 4 (some .boolean)] ++ wsX120)
def wsX12_isDarks : List Cond := .code yX12_isDarks cX12_isDarks 2 (some .boolean) :: ([.methodLink RX12 207 yX12_in, .instanceMethod yX12_in, .selects RX12 yX12_in yX12_in, .initialized RX12, .code yX12_in cX12_in 4 (some .boolean)])
def wsX12_need : List Cond := .code yX12_need cX12_need 4 (some .int) :: ([.fieldLink RX12 7 "EclipsesKeptModel" "needs" "I", .fieldLink RX12 22 "EclipsesKeptModel" "kind" "[I", .fieldLink RX12 26 "EclipsesKeptModel" "v" "[I", .fieldLink RX12 29 "EclipsesKeptModel" "served" "[I", .fieldLink RX12 32 "EclipsesKeptModel" "rows" "[I", .methodLink RX12 207 yX12_in, .instanceMethod yX12_in, .selects RX12 yX12_in yX12_in, .initialized RX12, .code yX12_in cX12_in 4 (some .boolean)] ++ wsX120)
def wsX12_darks : List Cond := .code yX12_darks cX12_darks 3 (some .int) :: ([.fieldLink RX12 13 "EclipsesKeptModel" "dark" "I", .methodLink RX12 211 yX12_isDarks, .instanceMethod yX12_isDarks, .selects RX12 yX12_isDarks yX12_isDarks, .initialized RX12, .code yX12_isDarks cX12_isDarks 2 (some .boolean), .methodLink RX12 207 yX12_in, .instanceMethod yX12_in, .selects RX12 yX12_in yX12_in, .code yX12_in cX12_in 4 (some .boolean)] ++ wsX120)
def wsX12_row : List Cond := .code yX12_row cX12_row 5 (some .int) :: ([.fieldLink RX12 22 "EclipsesKeptModel" "kind" "[I", .fieldLink RX12 32 "EclipsesKeptModel" "rows" "[I", .methodLink RX12 215 yX12_isNeed, .instanceMethod yX12_isNeed, .selects RX12 yX12_isNeed yX12_isNeed, .initialized RX12, .code yX12_isNeed cX12_isNeed 2 (some .boolean), .fieldLink RX12 7 "EclipsesKeptModel" "needs" "I", .methodLink RX12 207 yX12_in, .instanceMethod yX12_in, .selects RX12 yX12_in yX12_in, .code yX12_in cX12_in 4 (some .boolean)] ++ wsX120)
def wsX12_feed : List Cond := .code yX12_feed cX12_feed 2 (some .int) :: ([.fieldLink RX12 41 "EclipsesKeptModel" "fed" "I", .fieldLink RX12 50 "EclipsesKeptModel" "text" "[I", .methodLink RX12 207 yX12_in, .instanceMethod yX12_in, .selects RX12 yX12_in yX12_in, .initialized RX12, .code yX12_in cX12_in 4 (some .boolean)] ++ wsX120)
def wsX12_next : List Cond := .code yX12_next cX12_next 1 (some .int) :: ([.fieldLink RX12 44 "EclipsesKeptModel" "at" "I", .fieldLink RX12 41 "EclipsesKeptModel" "fed" "I", .fieldLink RX12 50 "EclipsesKeptModel" "text" "[I"] ++ wsX120)
def wsX12_takes : List Cond := .code yX12_takes cX12_takes 2 (some .boolean) :: ([.fieldLink RX12 44 "EclipsesKeptModel" "at" "I", .methodLink RX12 218 yX12_next, .instanceMethod yX12_next, .selects RX12 yX12_next yX12_next, .initialized RX12, .code yX12_next cX12_next 1 (some .int), .fieldLink RX12 41 "EclipsesKeptModel" "fed" "I", .fieldLink RX12 50 "EclipsesKeptModel" "text" "[I"] ++ wsX120)
def wsX12_takesWord : List Cond := .code yX12_takesWord cX12_takesWord 4 (some .boolean) :: ([.fieldLink RX12 83 "EclipsesKeptModel" "letters" "[I", .methodLink RX12 222 yX12_takes, .instanceMethod yX12_takes, .selects RX12 yX12_takes yX12_takes, .initialized RX12, .code yX12_takes cX12_takes 2 (some .boolean), .fieldLink RX12 44 "EclipsesKeptModel" "at" "I", .methodLink RX12 218 yX12_next, .instanceMethod yX12_next, .selects RX12 yX12_next yX12_next, .code yX12_next cX12_next 1 (some .int), .fieldLink RX12 41 "EclipsesKeptModel" "fed" "I", .fieldLink RX12 50 "EclipsesKeptModel" "text" "[I"] ++ wsX120)
def wsX12_isDigit : List Cond := .code yX12_isDigit cX12_isDigit 1 (some .boolean) :: ([.methodLink RX12 218 yX12_next, .instanceMethod yX12_next, .selects RX12 yX12_next yX12_next, .initialized RX12, .code yX12_next cX12_next 1 (some .int), .fieldLink RX12 44 "EclipsesKeptModel" "at" "I", .fieldLink RX12 41 "EclipsesKeptModel" "fed" "I", .fieldLink RX12 50 "EclipsesKeptModel" "text" "[I", .methodLink RX12 207 yX12_in, .instanceMethod yX12_in, .selects RX12 yX12_in yX12_in, .code yX12_in cX12_in 4 (some .boolean)] ++ wsX120)
def wsX12_takesNumber : List Cond := .code yX12_takesNumber cX12_takesNumber 2 (some .boolean) :: ([.fieldLink RX12 47 "EclipsesKeptModel" "digits" "I", .fieldLink RX12 44 "EclipsesKeptModel" "at" "I", .methodLink RX12 225 yX12_isDigit, .instanceMethod yX12_isDigit, .selects RX12 yX12_isDigit yX12_isDigit, .initialized RX12, .code yX12_isDigit cX12_isDigit 1 (some .boolean), .methodLink RX12 218 yX12_next, .instanceMethod yX12_next, .selects RX12 yX12_next yX12_next, .code yX12_next cX12_next 1 (some .int), .fieldLink RX12 41 "EclipsesKeptModel" "fed" "I", .fieldLink RX12 50 "EclipsesKeptModel" "text" "[I", .methodLink RX12 207 yX12_in, .instanceMethod yX12_in, .selects RX12 yX12_in yX12_in, .code yX12_in cX12_in 4 (some .boolean)] ++ wsX120)
def wsX12_emits : List Cond := .code yX12_emits cX12_emits 2 none :: ([.fieldLink RX12 68 "EclipsesKeptModel" "sign" "[I", .fieldLink RX12 74 "EclipsesKeptModel" "signs" "I"] ++ wsX120)
def wsX12_whole : List Cond := .code yX12_whole cX12_whole 1 none :: ([.fieldLink RX12 77 "EclipsesKeptModel" "waiting" "I", .fieldLink RX12 71 "EclipsesKeptModel" "waits" "[I", .fieldLink RX12 80 "EclipsesKeptModel" "open" "I", .methodLink RX12 229 yX12_emits, .instanceMethod yX12_emits, .selects RX12 yX12_emits yX12_emits, .initialized RX12, .code yX12_emits cX12_emits 2 none, .fieldLink RX12 68 "EclipsesKeptModel" "sign" "[I", .fieldLink RX12 74 "EclipsesKeptModel" "signs" "I"] ++ wsX120)
def wsX12_settle : List Cond := .code yX12_settle cX12_settle 2 none :: ([.fieldLink RX12 77 "EclipsesKeptModel" "waiting" "I", .fieldLink RX12 71 "EclipsesKeptModel" "waits" "[I", .methodLink RX12 229 yX12_emits, .instanceMethod yX12_emits, .selects RX12 yX12_emits yX12_emits, .initialized RX12, .code yX12_emits cX12_emits 2 none, .fieldLink RX12 68 "EclipsesKeptModel" "sign" "[I", .fieldLink RX12 74 "EclipsesKeptModel" "signs" "I"] ++ wsX120)
def wsX12_place : List Cond := .code yX12_place cX12_place 2 (some .int) :: ([])
def wsX12_takesTest_r1 : List Cond := [Cond.fieldLink RX12 44 "EclipsesKeptModel" "at" "I", Cond.fieldLink RX12 47 "EclipsesKeptModel" "digits" "I", Cond.methodLink RX12 218 yX12_next, Cond.instanceMethod yX12_next, Cond.selects RX12 yX12_next yX12_next, Cond.initialized RX12, Cond.code yX12_next cX12_next 1 (some .int), Cond.fieldLink RX12 41 "EclipsesKeptModel" "fed" "I", Cond.fieldLink RX12 50 "EclipsesKeptModel" "text" "[I", Cond.methodLink RX12 233 yX12_place, Cond.instanceMethod yX12_place, Cond.selects RX12 yX12_place yX12_place, Cond.code yX12_place cX12_place 2 (some .int), Cond.methodLink RX12 207 yX12_in, Cond.instanceMethod yX12_in, Cond.selects RX12 yX12_in yX12_in, Cond.code yX12_in cX12_in 4 (some .boolean), Cond.methodLink RX12 237 yX12_takesNumber, Cond.instanceMethod yX12_takesNumber, Cond.selects RX12 yX12_takesNumber yX12_takesNumber, Cond.code yX12_takesNumber cX12_takesNumber 2 (some .boolean), Cond.methodLink RX12 225 yX12_isDigit, Cond.instanceMethod yX12_isDigit, Cond.selects RX12 yX12_isDigit yX12_isDigit]
def wsX12_takesTest_r2 : List Cond := [Cond.code yX12_isDigit cX12_isDigit 1 (some .boolean), Cond.methodLink RX12 229 yX12_emits, Cond.instanceMethod yX12_emits, Cond.selects RX12 yX12_emits yX12_emits, Cond.code yX12_emits cX12_emits 2 none, Cond.fieldLink RX12 68 "EclipsesKeptModel" "sign" "[I", Cond.fieldLink RX12 74 "EclipsesKeptModel" "signs" "I", Cond.methodLink RX12 240 yX12_whole, Cond.instanceMethod yX12_whole, Cond.selects RX12 yX12_whole yX12_whole, Cond.code yX12_whole cX12_whole 1 none, Cond.fieldLink RX12 77 "EclipsesKeptModel" "waiting" "I", Cond.fieldLink RX12 71 "EclipsesKeptModel" "waits" "[I", Cond.fieldLink RX12 80 "EclipsesKeptModel" "open" "I"]
def wsX12_takesTest : List Cond := .code yX12_takesTest cX12_takesTest 3 (some .boolean) :: ((wsX12_takesTest_r1 ++ wsX12_takesTest_r2) ++ wsX120)
def wsX12_takesE_r1 : List Cond := [Cond.fieldLink RX12 77 "EclipsesKeptModel" "waiting" "I", Cond.fieldLink RX12 80 "EclipsesKeptModel" "open" "I", Cond.fieldLink RX12 62 "EclipsesKeptModel" "from" "[I", Cond.fieldLink RX12 74 "EclipsesKeptModel" "signs" "I", Cond.fieldLink RX12 71 "EclipsesKeptModel" "waits" "[I", Cond.fieldLink RX12 44 "EclipsesKeptModel" "at" "I", Cond.fieldLink RX12 65 "EclipsesKeptModel" "to" "[I", Cond.methodLink RX12 218 yX12_next, Cond.instanceMethod yX12_next, Cond.selects RX12 yX12_next yX12_next, Cond.initialized RX12, Cond.code yX12_next cX12_next 1 (some .int), Cond.fieldLink RX12 41 "EclipsesKeptModel" "fed" "I", Cond.fieldLink RX12 50 "EclipsesKeptModel" "text" "[I", Cond.methodLink RX12 243 yX12_takesTest, Cond.instanceMethod yX12_takesTest, Cond.selects RX12 yX12_takesTest yX12_takesTest, Cond.code yX12_takesTest cX12_takesTest 3 (some .boolean), Cond.fieldLink RX12 47 "EclipsesKeptModel" "digits" "I", Cond.methodLink RX12 233 yX12_place, Cond.instanceMethod yX12_place, Cond.selects RX12 yX12_place yX12_place, Cond.code yX12_place cX12_place 2 (some .int), Cond.methodLink RX12 207 yX12_in]
def wsX12_takesE_r2 : List Cond := [Cond.instanceMethod yX12_in, Cond.selects RX12 yX12_in yX12_in, Cond.code yX12_in cX12_in 4 (some .boolean), Cond.methodLink RX12 237 yX12_takesNumber, Cond.instanceMethod yX12_takesNumber, Cond.selects RX12 yX12_takesNumber yX12_takesNumber, Cond.code yX12_takesNumber cX12_takesNumber 2 (some .boolean), Cond.methodLink RX12 225 yX12_isDigit, Cond.instanceMethod yX12_isDigit, Cond.selects RX12 yX12_isDigit yX12_isDigit, Cond.code yX12_isDigit cX12_isDigit 1 (some .boolean), Cond.methodLink RX12 229 yX12_emits, Cond.instanceMethod yX12_emits, Cond.selects RX12 yX12_emits yX12_emits, Cond.code yX12_emits cX12_emits 2 none, Cond.fieldLink RX12 68 "EclipsesKeptModel" "sign" "[I", Cond.methodLink RX12 240 yX12_whole, Cond.instanceMethod yX12_whole, Cond.selects RX12 yX12_whole yX12_whole, Cond.code yX12_whole cX12_whole 1 none, Cond.methodLink RX12 246 yX12_settle, Cond.instanceMethod yX12_settle, Cond.selects RX12 yX12_settle yX12_settle, Cond.code yX12_settle cX12_settle 2 none]
def wsX12_takesE : List Cond := .code yX12_takesE cX12_takesE 4 (some .boolean) :: ((wsX12_takesE_r1 ++ wsX12_takesE_r2) ++ wsX120)
def wsX12_takesHead : List Cond := .code yX12_takesHead cX12_takesHead 2 (some .boolean) :: ([.fieldLink RX12 56 "EclipsesKeptModel" "word" "[I", .methodLink RX12 218 yX12_next, .instanceMethod yX12_next, .selects RX12 yX12_next yX12_next, .initialized RX12, .code yX12_next cX12_next 1 (some .int), .fieldLink RX12 44 "EclipsesKeptModel" "at" "I", .fieldLink RX12 41 "EclipsesKeptModel" "fed" "I", .fieldLink RX12 50 "EclipsesKeptModel" "text" "[I", .methodLink RX12 249 yX12_takesWord, .instanceMethod yX12_takesWord, .selects RX12 yX12_takesWord yX12_takesWord, .code yX12_takesWord cX12_takesWord 4 (some .boolean), .fieldLink RX12 83 "EclipsesKeptModel" "letters" "[I", .methodLink RX12 222 yX12_takes, .instanceMethod yX12_takes, .selects RX12 yX12_takes yX12_takes, .code yX12_takes cX12_takes 2 (some .boolean)] ++ wsX120)
def wsX12_takesClause_r1 : List Cond := [Cond.fieldLink RX12 59 "EclipsesKeptModel" "number" "[I", Cond.fieldLink RX12 47 "EclipsesKeptModel" "digits" "I", Cond.fieldLink RX12 56 "EclipsesKeptModel" "word" "[I", Cond.methodLink RX12 252 yX12_takesHead, Cond.instanceMethod yX12_takesHead, Cond.selects RX12 yX12_takesHead yX12_takesHead, Cond.initialized RX12, Cond.code yX12_takesHead cX12_takesHead 2 (some .boolean), Cond.methodLink RX12 218 yX12_next, Cond.instanceMethod yX12_next, Cond.selects RX12 yX12_next yX12_next, Cond.code yX12_next cX12_next 1 (some .int), Cond.fieldLink RX12 44 "EclipsesKeptModel" "at" "I", Cond.fieldLink RX12 41 "EclipsesKeptModel" "fed" "I", Cond.fieldLink RX12 50 "EclipsesKeptModel" "text" "[I", Cond.methodLink RX12 249 yX12_takesWord, Cond.instanceMethod yX12_takesWord, Cond.selects RX12 yX12_takesWord yX12_takesWord, Cond.code yX12_takesWord cX12_takesWord 4 (some .boolean), Cond.fieldLink RX12 83 "EclipsesKeptModel" "letters" "[I", Cond.methodLink RX12 222 yX12_takes, Cond.instanceMethod yX12_takes, Cond.selects RX12 yX12_takes yX12_takes, Cond.code yX12_takes cX12_takes 2 (some .boolean)]
def wsX12_takesClause_r2 : List Cond := [Cond.methodLink RX12 237 yX12_takesNumber, Cond.instanceMethod yX12_takesNumber, Cond.selects RX12 yX12_takesNumber yX12_takesNumber, Cond.code yX12_takesNumber cX12_takesNumber 2 (some .boolean), Cond.methodLink RX12 225 yX12_isDigit, Cond.instanceMethod yX12_isDigit, Cond.selects RX12 yX12_isDigit yX12_isDigit, Cond.code yX12_isDigit cX12_isDigit 1 (some .boolean), Cond.methodLink RX12 207 yX12_in, Cond.instanceMethod yX12_in, Cond.selects RX12 yX12_in yX12_in, Cond.code yX12_in cX12_in 4 (some .boolean), Cond.methodLink RX12 255 yX12_takesE, Cond.instanceMethod yX12_takesE, Cond.selects RX12 yX12_takesE yX12_takesE, Cond.code yX12_takesE cX12_takesE 4 (some .boolean), Cond.fieldLink RX12 77 "EclipsesKeptModel" "waiting" "I", Cond.fieldLink RX12 80 "EclipsesKeptModel" "open" "I", Cond.fieldLink RX12 62 "EclipsesKeptModel" "from" "[I", Cond.fieldLink RX12 74 "EclipsesKeptModel" "signs" "I", Cond.fieldLink RX12 71 "EclipsesKeptModel" "waits" "[I", Cond.fieldLink RX12 65 "EclipsesKeptModel" "to" "[I", Cond.methodLink RX12 243 yX12_takesTest, Cond.instanceMethod yX12_takesTest]
def wsX12_takesClause_r3 : List Cond := [Cond.selects RX12 yX12_takesTest yX12_takesTest, Cond.code yX12_takesTest cX12_takesTest 3 (some .boolean), Cond.methodLink RX12 233 yX12_place, Cond.instanceMethod yX12_place, Cond.selects RX12 yX12_place yX12_place, Cond.code yX12_place cX12_place 2 (some .int), Cond.methodLink RX12 229 yX12_emits, Cond.instanceMethod yX12_emits, Cond.selects RX12 yX12_emits yX12_emits, Cond.code yX12_emits cX12_emits 2 none, Cond.fieldLink RX12 68 "EclipsesKeptModel" "sign" "[I", Cond.methodLink RX12 240 yX12_whole, Cond.instanceMethod yX12_whole, Cond.selects RX12 yX12_whole yX12_whole, Cond.code yX12_whole cX12_whole 1 none, Cond.methodLink RX12 246 yX12_settle, Cond.instanceMethod yX12_settle, Cond.selects RX12 yX12_settle yX12_settle, Cond.code yX12_settle cX12_settle 2 none]
def wsX12_takesClause : List Cond := .code yX12_takesClause cX12_takesClause 2 (some .boolean) :: ((wsX12_takesClause_r1 ++ (wsX12_takesClause_r2 ++ wsX12_takesClause_r3)) ++ wsX120)
def wsX12_goesText_r1 : List Cond := [Cond.fieldLink RX12 44 "EclipsesKeptModel" "at" "I", Cond.fieldLink RX12 74 "EclipsesKeptModel" "signs" "I", Cond.fieldLink RX12 53 "EclipsesKeptModel" "clauses" "[I", Cond.fieldLink RX12 41 "EclipsesKeptModel" "fed" "I", Cond.methodLink RX12 258 yX12_takesClause, Cond.instanceMethod yX12_takesClause, Cond.selects RX12 yX12_takesClause yX12_takesClause, Cond.initialized RX12, Cond.code yX12_takesClause cX12_takesClause 2 (some .boolean), Cond.fieldLink RX12 59 "EclipsesKeptModel" "number" "[I", Cond.fieldLink RX12 47 "EclipsesKeptModel" "digits" "I", Cond.fieldLink RX12 56 "EclipsesKeptModel" "word" "[I", Cond.methodLink RX12 252 yX12_takesHead, Cond.instanceMethod yX12_takesHead, Cond.selects RX12 yX12_takesHead yX12_takesHead, Cond.code yX12_takesHead cX12_takesHead 2 (some .boolean), Cond.methodLink RX12 218 yX12_next, Cond.instanceMethod yX12_next, Cond.selects RX12 yX12_next yX12_next, Cond.code yX12_next cX12_next 1 (some .int), Cond.fieldLink RX12 50 "EclipsesKeptModel" "text" "[I", Cond.methodLink RX12 249 yX12_takesWord, Cond.instanceMethod yX12_takesWord, Cond.selects RX12 yX12_takesWord yX12_takesWord]
def wsX12_goesText_r2 : List Cond := [Cond.code yX12_takesWord cX12_takesWord 4 (some .boolean), Cond.fieldLink RX12 83 "EclipsesKeptModel" "letters" "[I", Cond.methodLink RX12 222 yX12_takes, Cond.instanceMethod yX12_takes, Cond.selects RX12 yX12_takes yX12_takes, Cond.code yX12_takes cX12_takes 2 (some .boolean), Cond.methodLink RX12 237 yX12_takesNumber, Cond.instanceMethod yX12_takesNumber, Cond.selects RX12 yX12_takesNumber yX12_takesNumber, Cond.code yX12_takesNumber cX12_takesNumber 2 (some .boolean), Cond.methodLink RX12 225 yX12_isDigit, Cond.instanceMethod yX12_isDigit, Cond.selects RX12 yX12_isDigit yX12_isDigit, Cond.code yX12_isDigit cX12_isDigit 1 (some .boolean), Cond.methodLink RX12 207 yX12_in, Cond.instanceMethod yX12_in, Cond.selects RX12 yX12_in yX12_in, Cond.code yX12_in cX12_in 4 (some .boolean), Cond.methodLink RX12 255 yX12_takesE, Cond.instanceMethod yX12_takesE, Cond.selects RX12 yX12_takesE yX12_takesE, Cond.code yX12_takesE cX12_takesE 4 (some .boolean), Cond.fieldLink RX12 77 "EclipsesKeptModel" "waiting" "I", Cond.fieldLink RX12 80 "EclipsesKeptModel" "open" "I"]
def wsX12_goesText_r3 : List Cond := [Cond.fieldLink RX12 62 "EclipsesKeptModel" "from" "[I", Cond.fieldLink RX12 71 "EclipsesKeptModel" "waits" "[I", Cond.fieldLink RX12 65 "EclipsesKeptModel" "to" "[I", Cond.methodLink RX12 243 yX12_takesTest, Cond.instanceMethod yX12_takesTest, Cond.selects RX12 yX12_takesTest yX12_takesTest, Cond.code yX12_takesTest cX12_takesTest 3 (some .boolean), Cond.methodLink RX12 233 yX12_place, Cond.instanceMethod yX12_place, Cond.selects RX12 yX12_place yX12_place, Cond.code yX12_place cX12_place 2 (some .int), Cond.methodLink RX12 229 yX12_emits, Cond.instanceMethod yX12_emits, Cond.selects RX12 yX12_emits yX12_emits, Cond.code yX12_emits cX12_emits 2 none, Cond.fieldLink RX12 68 "EclipsesKeptModel" "sign" "[I", Cond.methodLink RX12 240 yX12_whole, Cond.instanceMethod yX12_whole, Cond.selects RX12 yX12_whole yX12_whole, Cond.code yX12_whole cX12_whole 1 none, Cond.methodLink RX12 246 yX12_settle, Cond.instanceMethod yX12_settle, Cond.selects RX12 yX12_settle yX12_settle, Cond.code yX12_settle cX12_settle 2 none]
def wsX12_goesText : List Cond := .code yX12_goesText cX12_goesText 3 (some .boolean) :: ((wsX12_goesText_r1 ++ (wsX12_goesText_r2 ++ wsX12_goesText_r3)) ++ wsX120)
def wsX12_archive_r1 : List Cond := [Cond.fieldLink RX12 35 "EclipsesKeptModel" "archives" "I", Cond.fieldLink RX12 41 "EclipsesKeptModel" "fed" "I", Cond.fieldLink RX12 44 "EclipsesKeptModel" "at" "I", Cond.fieldLink RX12 38 "EclipsesKeptModel" "the" "I", Cond.methodLink RX12 261 yX12_goesText, Cond.instanceMethod yX12_goesText, Cond.selects RX12 yX12_goesText yX12_goesText, Cond.initialized RX12, Cond.code yX12_goesText cX12_goesText 3 (some .boolean), Cond.fieldLink RX12 74 "EclipsesKeptModel" "signs" "I", Cond.fieldLink RX12 53 "EclipsesKeptModel" "clauses" "[I", Cond.methodLink RX12 258 yX12_takesClause, Cond.instanceMethod yX12_takesClause, Cond.selects RX12 yX12_takesClause yX12_takesClause, Cond.code yX12_takesClause cX12_takesClause 2 (some .boolean), Cond.fieldLink RX12 59 "EclipsesKeptModel" "number" "[I", Cond.fieldLink RX12 47 "EclipsesKeptModel" "digits" "I", Cond.fieldLink RX12 56 "EclipsesKeptModel" "word" "[I", Cond.methodLink RX12 252 yX12_takesHead, Cond.instanceMethod yX12_takesHead, Cond.selects RX12 yX12_takesHead yX12_takesHead, Cond.code yX12_takesHead cX12_takesHead 2 (some .boolean), Cond.methodLink RX12 218 yX12_next, Cond.instanceMethod yX12_next]
def wsX12_archive_r2 : List Cond := [Cond.selects RX12 yX12_next yX12_next, Cond.code yX12_next cX12_next 1 (some .int), Cond.fieldLink RX12 50 "EclipsesKeptModel" "text" "[I", Cond.methodLink RX12 249 yX12_takesWord, Cond.instanceMethod yX12_takesWord, Cond.selects RX12 yX12_takesWord yX12_takesWord, Cond.code yX12_takesWord cX12_takesWord 4 (some .boolean), Cond.fieldLink RX12 83 "EclipsesKeptModel" "letters" "[I", Cond.methodLink RX12 222 yX12_takes, Cond.instanceMethod yX12_takes, Cond.selects RX12 yX12_takes yX12_takes, Cond.code yX12_takes cX12_takes 2 (some .boolean), Cond.methodLink RX12 237 yX12_takesNumber, Cond.instanceMethod yX12_takesNumber, Cond.selects RX12 yX12_takesNumber yX12_takesNumber, Cond.code yX12_takesNumber cX12_takesNumber 2 (some .boolean), Cond.methodLink RX12 225 yX12_isDigit, Cond.instanceMethod yX12_isDigit, Cond.selects RX12 yX12_isDigit yX12_isDigit, Cond.code yX12_isDigit cX12_isDigit 1 (some .boolean), Cond.methodLink RX12 207 yX12_in, Cond.instanceMethod yX12_in, Cond.selects RX12 yX12_in yX12_in, Cond.code yX12_in cX12_in 4 (some .boolean)]
def wsX12_archive_r3 : List Cond := [Cond.methodLink RX12 255 yX12_takesE, Cond.instanceMethod yX12_takesE, Cond.selects RX12 yX12_takesE yX12_takesE, Cond.code yX12_takesE cX12_takesE 4 (some .boolean), Cond.fieldLink RX12 77 "EclipsesKeptModel" "waiting" "I", Cond.fieldLink RX12 80 "EclipsesKeptModel" "open" "I", Cond.fieldLink RX12 62 "EclipsesKeptModel" "from" "[I", Cond.fieldLink RX12 71 "EclipsesKeptModel" "waits" "[I", Cond.fieldLink RX12 65 "EclipsesKeptModel" "to" "[I", Cond.methodLink RX12 243 yX12_takesTest, Cond.instanceMethod yX12_takesTest, Cond.selects RX12 yX12_takesTest yX12_takesTest, Cond.code yX12_takesTest cX12_takesTest 3 (some .boolean), Cond.methodLink RX12 233 yX12_place, Cond.instanceMethod yX12_place, Cond.selects RX12 yX12_place yX12_place, Cond.code yX12_place cX12_place 2 (some .int), Cond.methodLink RX12 229 yX12_emits, Cond.instanceMethod yX12_emits, Cond.selects RX12 yX12_emits yX12_emits, Cond.code yX12_emits cX12_emits 2 none, Cond.fieldLink RX12 68 "EclipsesKeptModel" "sign" "[I", Cond.methodLink RX12 240 yX12_whole, Cond.instanceMethod yX12_whole]
def wsX12_archive_r4 : List Cond := [Cond.selects RX12 yX12_whole yX12_whole, Cond.code yX12_whole cX12_whole 1 none, Cond.methodLink RX12 246 yX12_settle, Cond.instanceMethod yX12_settle, Cond.selects RX12 yX12_settle yX12_settle, Cond.code yX12_settle cX12_settle 2 none]
def wsX12_archive : List Cond := .code yX12_archive cX12_archive 2 (some .int) :: ((wsX12_archive_r1 ++ (wsX12_archive_r2 ++ (wsX12_archive_r3 ++ wsX12_archive_r4))) ++ wsX120)
def wsX12_begin : List Cond := .code yX12_begin cX12_begin 1 (some .int) :: ([.fieldLink RX12 38 "EclipsesKeptModel" "the" "I"] ++ wsX120)
def wsX12_behind : List Cond := .code yX12_behind cX12_behind 1 (some .int) :: ([.fieldLink RX12 38 "EclipsesKeptModel" "the" "I", .fieldLink RX12 53 "EclipsesKeptModel" "clauses" "[I"] ++ wsX120)
def wsX12_keep : List Cond := .code yX12_keep cX12_keep 3 (some .int) :: ([.fieldLink RX12 56 "EclipsesKeptModel" "word" "[I", .fieldLink RX12 59 "EclipsesKeptModel" "number" "[I", .methodLink RX12 264 yX12_begin, .instanceMethod yX12_begin, .selects RX12 yX12_begin yX12_begin, .initialized RX12, .code yX12_begin cX12_begin 1 (some .int), .fieldLink RX12 38 "EclipsesKeptModel" "the" "I", .methodLink RX12 267 yX12_behind, .instanceMethod yX12_behind, .selects RX12 yX12_behind yX12_behind, .code yX12_behind cX12_behind 1 (some .int), .fieldLink RX12 53 "EclipsesKeptModel" "clauses" "[I"] ++ wsX120)
def wsX12_factOf : List Cond := .code yX12_factOf cX12_factOf 5 (some .int) :: ([.fieldLink RX12 22 "EclipsesKeptModel" "kind" "[I", .fieldLink RX12 26 "EclipsesKeptModel" "v" "[I"] ++ wsX120)
def wsX12_holds : List Cond := .code yX12_holds cX12_holds 10 (some .boolean) :: ([.fieldLink RX12 62 "EclipsesKeptModel" "from" "[I", .fieldLink RX12 65 "EclipsesKeptModel" "to" "[I", .fieldLink RX12 68 "EclipsesKeptModel" "sign" "[I", .fieldLink RX12 86 "EclipsesKeptModel" "pile" "[Z", .methodLink RX12 270 yX12_factOf, .instanceMethod yX12_factOf, .selects RX12 yX12_factOf yX12_factOf, .initialized RX12, .code yX12_factOf cX12_factOf 5 (some .int), .fieldLink RX12 22 "EclipsesKeptModel" "kind" "[I", .fieldLink RX12 26 "EclipsesKeptModel" "v" "[I"] ++ wsX120)
def wsX12_base_r1 : List Cond := [Cond.fieldLink RX12 56 "EclipsesKeptModel" "word" "[I", Cond.fieldLink RX12 59 "EclipsesKeptModel" "number" "[I", Cond.methodLink RX12 264 yX12_begin, Cond.instanceMethod yX12_begin, Cond.selects RX12 yX12_begin yX12_begin, Cond.initialized RX12, Cond.code yX12_begin cX12_begin 1 (some .int), Cond.fieldLink RX12 38 "EclipsesKeptModel" "the" "I", Cond.methodLink RX12 267 yX12_behind, Cond.instanceMethod yX12_behind, Cond.selects RX12 yX12_behind yX12_behind, Cond.code yX12_behind cX12_behind 1 (some .int), Cond.fieldLink RX12 53 "EclipsesKeptModel" "clauses" "[I", Cond.methodLink RX12 274 yX12_holds, Cond.instanceMethod yX12_holds, Cond.selects RX12 yX12_holds yX12_holds, Cond.code yX12_holds cX12_holds 10 (some .boolean), Cond.fieldLink RX12 62 "EclipsesKeptModel" "from" "[I", Cond.fieldLink RX12 65 "EclipsesKeptModel" "to" "[I", Cond.fieldLink RX12 68 "EclipsesKeptModel" "sign" "[I", Cond.fieldLink RX12 86 "EclipsesKeptModel" "pile" "[Z", Cond.methodLink RX12 270 yX12_factOf, Cond.instanceMethod yX12_factOf, Cond.selects RX12 yX12_factOf yX12_factOf]
def wsX12_base_r2 : List Cond := [Cond.code yX12_factOf cX12_factOf 5 (some .int), Cond.fieldLink RX12 22 "EclipsesKeptModel" "kind" "[I", Cond.fieldLink RX12 26 "EclipsesKeptModel" "v" "[I"]
def wsX12_base : List Cond := .code yX12_base cX12_base 6 (some .int) :: ((wsX12_base_r1 ++ wsX12_base_r2) ++ wsX120)
def wsX12_worthOf_r1 : List Cond := [Cond.fieldLink RX12 22 "EclipsesKeptModel" "kind" "[I", Cond.fieldLink RX12 26 "EclipsesKeptModel" "v" "[I", Cond.fieldLink RX12 32 "EclipsesKeptModel" "rows" "[I", Cond.methodLink RX12 278 yX12_base, Cond.instanceMethod yX12_base, Cond.selects RX12 yX12_base yX12_base, Cond.initialized RX12, Cond.code yX12_base cX12_base 6 (some .int), Cond.fieldLink RX12 56 "EclipsesKeptModel" "word" "[I", Cond.fieldLink RX12 59 "EclipsesKeptModel" "number" "[I", Cond.methodLink RX12 264 yX12_begin, Cond.instanceMethod yX12_begin, Cond.selects RX12 yX12_begin yX12_begin, Cond.code yX12_begin cX12_begin 1 (some .int), Cond.fieldLink RX12 38 "EclipsesKeptModel" "the" "I", Cond.methodLink RX12 267 yX12_behind, Cond.instanceMethod yX12_behind, Cond.selects RX12 yX12_behind yX12_behind, Cond.code yX12_behind cX12_behind 1 (some .int), Cond.fieldLink RX12 53 "EclipsesKeptModel" "clauses" "[I", Cond.methodLink RX12 274 yX12_holds, Cond.instanceMethod yX12_holds, Cond.selects RX12 yX12_holds yX12_holds, Cond.code yX12_holds cX12_holds 10 (some .boolean)]
def wsX12_worthOf_r2 : List Cond := [Cond.fieldLink RX12 62 "EclipsesKeptModel" "from" "[I", Cond.fieldLink RX12 65 "EclipsesKeptModel" "to" "[I", Cond.fieldLink RX12 68 "EclipsesKeptModel" "sign" "[I", Cond.fieldLink RX12 86 "EclipsesKeptModel" "pile" "[Z", Cond.methodLink RX12 270 yX12_factOf, Cond.instanceMethod yX12_factOf, Cond.selects RX12 yX12_factOf yX12_factOf, Cond.code yX12_factOf cX12_factOf 5 (some .int)]
def wsX12_worthOf : List Cond := .code yX12_worthOf cX12_worthOf 7 (some .int) :: ((wsX12_worthOf_r1 ++ wsX12_worthOf_r2) ++ wsX120)
def wsX12_of_r1 : List Cond := [Cond.fieldLink RX12 22 "EclipsesKeptModel" "kind" "[I", Cond.fieldLink RX12 26 "EclipsesKeptModel" "v" "[I", Cond.fieldLink RX12 29 "EclipsesKeptModel" "served" "[I", Cond.fieldLink RX12 19 "EclipsesKeptModel" "year" "I", Cond.fieldLink RX12 13 "EclipsesKeptModel" "dark" "I", Cond.methodLink RX12 215 yX12_isNeed, Cond.instanceMethod yX12_isNeed, Cond.selects RX12 yX12_isNeed yX12_isNeed, Cond.initialized RX12, Cond.code yX12_isNeed cX12_isNeed 2 (some .boolean), Cond.fieldLink RX12 7 "EclipsesKeptModel" "needs" "I", Cond.methodLink RX12 207 yX12_in, Cond.instanceMethod yX12_in, Cond.selects RX12 yX12_in yX12_in, Cond.code yX12_in cX12_in 4 (some .boolean), Cond.methodLink RX12 282 yX12_worthOf, Cond.instanceMethod yX12_worthOf, Cond.selects RX12 yX12_worthOf yX12_worthOf, Cond.code yX12_worthOf cX12_worthOf 7 (some .int), Cond.fieldLink RX12 32 "EclipsesKeptModel" "rows" "[I", Cond.methodLink RX12 278 yX12_base, Cond.instanceMethod yX12_base, Cond.selects RX12 yX12_base yX12_base, Cond.code yX12_base cX12_base 6 (some .int)]
def wsX12_of_r2 : List Cond := [Cond.fieldLink RX12 56 "EclipsesKeptModel" "word" "[I", Cond.fieldLink RX12 59 "EclipsesKeptModel" "number" "[I", Cond.methodLink RX12 264 yX12_begin, Cond.instanceMethod yX12_begin, Cond.selects RX12 yX12_begin yX12_begin, Cond.code yX12_begin cX12_begin 1 (some .int), Cond.fieldLink RX12 38 "EclipsesKeptModel" "the" "I", Cond.methodLink RX12 267 yX12_behind, Cond.instanceMethod yX12_behind, Cond.selects RX12 yX12_behind yX12_behind, Cond.code yX12_behind cX12_behind 1 (some .int), Cond.fieldLink RX12 53 "EclipsesKeptModel" "clauses" "[I", Cond.methodLink RX12 274 yX12_holds, Cond.instanceMethod yX12_holds, Cond.selects RX12 yX12_holds yX12_holds, Cond.code yX12_holds cX12_holds 10 (some .boolean), Cond.fieldLink RX12 62 "EclipsesKeptModel" "from" "[I", Cond.fieldLink RX12 65 "EclipsesKeptModel" "to" "[I", Cond.fieldLink RX12 68 "EclipsesKeptModel" "sign" "[I", Cond.fieldLink RX12 86 "EclipsesKeptModel" "pile" "[Z", Cond.methodLink RX12 270 yX12_factOf, Cond.instanceMethod yX12_factOf, Cond.selects RX12 yX12_factOf yX12_factOf, Cond.code yX12_factOf cX12_factOf 5 (some .int)]
def wsX12_of : List Cond := .code yX12_of cX12_of 3 (some .int) :: ((wsX12_of_r1 ++ wsX12_of_r2) ++ wsX120)
def wsX12_worth_r1 : List Cond := [Cond.fieldLink RX12 19 "EclipsesKeptModel" "year" "I", Cond.methodLink RX12 215 yX12_isNeed, Cond.instanceMethod yX12_isNeed, Cond.selects RX12 yX12_isNeed yX12_isNeed, Cond.initialized RX12, Cond.code yX12_isNeed cX12_isNeed 2 (some .boolean), Cond.fieldLink RX12 7 "EclipsesKeptModel" "needs" "I", Cond.methodLink RX12 207 yX12_in, Cond.instanceMethod yX12_in, Cond.selects RX12 yX12_in yX12_in, Cond.code yX12_in cX12_in 4 (some .boolean), Cond.methodLink RX12 211 yX12_isDarks, Cond.instanceMethod yX12_isDarks, Cond.selects RX12 yX12_isDarks yX12_isDarks, Cond.code yX12_isDarks cX12_isDarks 2 (some .boolean), Cond.methodLink RX12 282 yX12_worthOf, Cond.instanceMethod yX12_worthOf, Cond.selects RX12 yX12_worthOf yX12_worthOf, Cond.code yX12_worthOf cX12_worthOf 7 (some .int), Cond.fieldLink RX12 22 "EclipsesKeptModel" "kind" "[I", Cond.fieldLink RX12 26 "EclipsesKeptModel" "v" "[I", Cond.fieldLink RX12 32 "EclipsesKeptModel" "rows" "[I", Cond.methodLink RX12 278 yX12_base, Cond.instanceMethod yX12_base]
def wsX12_worth_r2 : List Cond := [Cond.selects RX12 yX12_base yX12_base, Cond.code yX12_base cX12_base 6 (some .int), Cond.fieldLink RX12 56 "EclipsesKeptModel" "word" "[I", Cond.fieldLink RX12 59 "EclipsesKeptModel" "number" "[I", Cond.methodLink RX12 264 yX12_begin, Cond.instanceMethod yX12_begin, Cond.selects RX12 yX12_begin yX12_begin, Cond.code yX12_begin cX12_begin 1 (some .int), Cond.fieldLink RX12 38 "EclipsesKeptModel" "the" "I", Cond.methodLink RX12 267 yX12_behind, Cond.instanceMethod yX12_behind, Cond.selects RX12 yX12_behind yX12_behind, Cond.code yX12_behind cX12_behind 1 (some .int), Cond.fieldLink RX12 53 "EclipsesKeptModel" "clauses" "[I", Cond.methodLink RX12 274 yX12_holds, Cond.instanceMethod yX12_holds, Cond.selects RX12 yX12_holds yX12_holds, Cond.code yX12_holds cX12_holds 10 (some .boolean), Cond.fieldLink RX12 62 "EclipsesKeptModel" "from" "[I", Cond.fieldLink RX12 65 "EclipsesKeptModel" "to" "[I", Cond.fieldLink RX12 68 "EclipsesKeptModel" "sign" "[I", Cond.fieldLink RX12 86 "EclipsesKeptModel" "pile" "[Z", Cond.methodLink RX12 270 yX12_factOf, Cond.instanceMethod yX12_factOf]
def wsX12_worth_r3 : List Cond := [Cond.selects RX12 yX12_factOf yX12_factOf, Cond.code yX12_factOf cX12_factOf 5 (some .int)]
def wsX12_worth : List Cond := .code yX12_worth cX12_worth 4 (some .int) :: ((wsX12_worth_r1 ++ (wsX12_worth_r2 ++ wsX12_worth_r3)) ++ wsX120)
def wsX12_held : List Cond := .code yX12_held cX12_held 2 (some .int) :: ([.constant RX12 285 (999999), .constant RX12 286 (-999999)])
def wsX12_serve_r1 : List Cond := [Cond.constant RX12 287 (-10000001), Cond.fieldLink RX12 13 "EclipsesKeptModel" "dark" "I", Cond.fieldLink RX12 19 "EclipsesKeptModel" "year" "I", Cond.fieldLink RX12 29 "EclipsesKeptModel" "served" "[I", Cond.constant RX12 288 (-10000002), Cond.fieldLink RX12 16 "EclipsesKeptModel" "glory" "I", Cond.methodLink RX12 215 yX12_isNeed, Cond.instanceMethod yX12_isNeed, Cond.selects RX12 yX12_isNeed yX12_isNeed, Cond.initialized RX12, Cond.code yX12_isNeed cX12_isNeed 2 (some .boolean), Cond.fieldLink RX12 7 "EclipsesKeptModel" "needs" "I", Cond.methodLink RX12 207 yX12_in, Cond.instanceMethod yX12_in, Cond.selects RX12 yX12_in yX12_in, Cond.code yX12_in cX12_in 4 (some .boolean), Cond.methodLink RX12 282 yX12_worthOf, Cond.instanceMethod yX12_worthOf, Cond.selects RX12 yX12_worthOf yX12_worthOf, Cond.code yX12_worthOf cX12_worthOf 7 (some .int), Cond.fieldLink RX12 22 "EclipsesKeptModel" "kind" "[I", Cond.fieldLink RX12 26 "EclipsesKeptModel" "v" "[I", Cond.fieldLink RX12 32 "EclipsesKeptModel" "rows" "[I", Cond.methodLink RX12 278 yX12_base]
def wsX12_serve_r2 : List Cond := [Cond.instanceMethod yX12_base, Cond.selects RX12 yX12_base yX12_base, Cond.code yX12_base cX12_base 6 (some .int), Cond.fieldLink RX12 56 "EclipsesKeptModel" "word" "[I", Cond.fieldLink RX12 59 "EclipsesKeptModel" "number" "[I", Cond.methodLink RX12 264 yX12_begin, Cond.instanceMethod yX12_begin, Cond.selects RX12 yX12_begin yX12_begin, Cond.code yX12_begin cX12_begin 1 (some .int), Cond.fieldLink RX12 38 "EclipsesKeptModel" "the" "I", Cond.methodLink RX12 267 yX12_behind, Cond.instanceMethod yX12_behind, Cond.selects RX12 yX12_behind yX12_behind, Cond.code yX12_behind cX12_behind 1 (some .int), Cond.fieldLink RX12 53 "EclipsesKeptModel" "clauses" "[I", Cond.methodLink RX12 274 yX12_holds, Cond.instanceMethod yX12_holds, Cond.selects RX12 yX12_holds yX12_holds, Cond.code yX12_holds cX12_holds 10 (some .boolean), Cond.fieldLink RX12 62 "EclipsesKeptModel" "from" "[I", Cond.fieldLink RX12 65 "EclipsesKeptModel" "to" "[I", Cond.fieldLink RX12 68 "EclipsesKeptModel" "sign" "[I", Cond.fieldLink RX12 86 "EclipsesKeptModel" "pile" "[Z", Cond.methodLink RX12 270 yX12_factOf]
def wsX12_serve_r3 : List Cond := [Cond.instanceMethod yX12_factOf, Cond.selects RX12 yX12_factOf yX12_factOf, Cond.code yX12_factOf cX12_factOf 5 (some .int), Cond.methodLink RX12 289 yX12_keep, Cond.instanceMethod yX12_keep, Cond.selects RX12 yX12_keep yX12_keep, Cond.code yX12_keep cX12_keep 3 (some .int), Cond.methodLink RX12 292 yX12_held, Cond.instanceMethod yX12_held, Cond.selects RX12 yX12_held yX12_held, Cond.code yX12_held cX12_held 2 (some .int), Cond.constant RX12 285 (999999), Cond.constant RX12 286 (-999999)]
def wsX12_serve : List Cond := .code yX12_serve cX12_serve 3 (some .int) :: ((wsX12_serve_r1 ++ (wsX12_serve_r2 ++ wsX12_serve_r3)) ++ wsX120)
def wsX12_spare_r1 : List Cond := [Cond.constant RX12 287 (-10000001), Cond.fieldLink RX12 19 "EclipsesKeptModel" "year" "I", Cond.constant RX12 288 (-10000002), Cond.fieldLink RX12 16 "EclipsesKeptModel" "glory" "I", Cond.fieldLink RX12 13 "EclipsesKeptModel" "dark" "I", Cond.methodLink RX12 215 yX12_isNeed, Cond.instanceMethod yX12_isNeed, Cond.selects RX12 yX12_isNeed yX12_isNeed, Cond.initialized RX12, Cond.code yX12_isNeed cX12_isNeed 2 (some .boolean), Cond.fieldLink RX12 7 "EclipsesKeptModel" "needs" "I", Cond.methodLink RX12 207 yX12_in, Cond.instanceMethod yX12_in, Cond.selects RX12 yX12_in yX12_in, Cond.code yX12_in cX12_in 4 (some .boolean), Cond.methodLink RX12 289 yX12_keep, Cond.instanceMethod yX12_keep, Cond.selects RX12 yX12_keep yX12_keep, Cond.code yX12_keep cX12_keep 3 (some .int), Cond.fieldLink RX12 56 "EclipsesKeptModel" "word" "[I", Cond.fieldLink RX12 59 "EclipsesKeptModel" "number" "[I", Cond.methodLink RX12 264 yX12_begin, Cond.instanceMethod yX12_begin, Cond.selects RX12 yX12_begin yX12_begin]
def wsX12_spare_r2 : List Cond := [Cond.code yX12_begin cX12_begin 1 (some .int), Cond.fieldLink RX12 38 "EclipsesKeptModel" "the" "I", Cond.methodLink RX12 267 yX12_behind, Cond.instanceMethod yX12_behind, Cond.selects RX12 yX12_behind yX12_behind, Cond.code yX12_behind cX12_behind 1 (some .int), Cond.fieldLink RX12 53 "EclipsesKeptModel" "clauses" "[I", Cond.methodLink RX12 292 yX12_held, Cond.instanceMethod yX12_held, Cond.selects RX12 yX12_held yX12_held, Cond.code yX12_held cX12_held 2 (some .int), Cond.constant RX12 285 (999999), Cond.constant RX12 286 (-999999)]
def wsX12_spare : List Cond := .code yX12_spare cX12_spare 2 (some .int) :: ((wsX12_spare_r1 ++ wsX12_spare_r2) ++ wsX120)
def wsX12_told : List Cond := .code yX12_told cX12_told 2 (some .int) :: ([.fieldLink RX12 19 "EclipsesKeptModel" "year" "I", .fieldLink RX12 13 "EclipsesKeptModel" "dark" "I", .fieldLink RX12 16 "EclipsesKeptModel" "glory" "I", .constant RX12 287 (-10000001), .methodLink RX12 289 yX12_keep, .instanceMethod yX12_keep, .selects RX12 yX12_keep yX12_keep, .initialized RX12, .code yX12_keep cX12_keep 3 (some .int), .fieldLink RX12 56 "EclipsesKeptModel" "word" "[I", .fieldLink RX12 59 "EclipsesKeptModel" "number" "[I", .methodLink RX12 264 yX12_begin, .instanceMethod yX12_begin, .selects RX12 yX12_begin yX12_begin, .code yX12_begin cX12_begin 1 (some .int), .fieldLink RX12 38 "EclipsesKeptModel" "the" "I", .methodLink RX12 267 yX12_behind, .instanceMethod yX12_behind, .selects RX12 yX12_behind yX12_behind, .code yX12_behind cX12_behind 1 (some .int), .fieldLink RX12 53 "EclipsesKeptModel" "clauses" "[I"] ++ wsX120)
def wsX12_ways : List Cond := .code yX12_ways cX12_ways 5 (some .long) :: ([.fieldLink RX12 7 "EclipsesKeptModel" "needs" "I"] ++ wsX120)
def wsX12_ifServed_r1 : List Cond := [Cond.fieldLink RX12 19 "EclipsesKeptModel" "year" "I", Cond.fieldLink RX12 90 "EclipsesKeptModel" "gain" "[J", Cond.methodLink RX12 295 yX12_ways, Cond.instanceMethod yX12_ways, Cond.selects RX12 yX12_ways yX12_ways, Cond.initialized RX12, Cond.code yX12_ways cX12_ways 5 (some .long), Cond.fieldLink RX12 7 "EclipsesKeptModel" "needs" "I", Cond.methodLink RX12 282 yX12_worthOf, Cond.instanceMethod yX12_worthOf, Cond.selects RX12 yX12_worthOf yX12_worthOf, Cond.code yX12_worthOf cX12_worthOf 7 (some .int), Cond.fieldLink RX12 22 "EclipsesKeptModel" "kind" "[I", Cond.fieldLink RX12 26 "EclipsesKeptModel" "v" "[I", Cond.fieldLink RX12 32 "EclipsesKeptModel" "rows" "[I", Cond.methodLink RX12 278 yX12_base, Cond.instanceMethod yX12_base, Cond.selects RX12 yX12_base yX12_base, Cond.code yX12_base cX12_base 6 (some .int), Cond.fieldLink RX12 56 "EclipsesKeptModel" "word" "[I", Cond.fieldLink RX12 59 "EclipsesKeptModel" "number" "[I", Cond.methodLink RX12 264 yX12_begin, Cond.instanceMethod yX12_begin, Cond.selects RX12 yX12_begin yX12_begin]
def wsX12_ifServed_r2 : List Cond := [Cond.code yX12_begin cX12_begin 1 (some .int), Cond.fieldLink RX12 38 "EclipsesKeptModel" "the" "I", Cond.methodLink RX12 267 yX12_behind, Cond.instanceMethod yX12_behind, Cond.selects RX12 yX12_behind yX12_behind, Cond.code yX12_behind cX12_behind 1 (some .int), Cond.fieldLink RX12 53 "EclipsesKeptModel" "clauses" "[I", Cond.methodLink RX12 274 yX12_holds, Cond.instanceMethod yX12_holds, Cond.selects RX12 yX12_holds yX12_holds, Cond.code yX12_holds cX12_holds 10 (some .boolean), Cond.fieldLink RX12 62 "EclipsesKeptModel" "from" "[I", Cond.fieldLink RX12 65 "EclipsesKeptModel" "to" "[I", Cond.fieldLink RX12 68 "EclipsesKeptModel" "sign" "[I", Cond.fieldLink RX12 86 "EclipsesKeptModel" "pile" "[Z", Cond.methodLink RX12 270 yX12_factOf, Cond.instanceMethod yX12_factOf, Cond.selects RX12 yX12_factOf yX12_factOf, Cond.code yX12_factOf cX12_factOf 5 (some .int), Cond.methodLink RX12 289 yX12_keep, Cond.instanceMethod yX12_keep, Cond.selects RX12 yX12_keep yX12_keep, Cond.code yX12_keep cX12_keep 3 (some .int)]
def wsX12_ifServed : List Cond := .code yX12_ifServed cX12_ifServed 5 (some .long) :: ((wsX12_ifServed_r1 ++ wsX12_ifServed_r2) ++ wsX120)
def wsX12_ifSpared : List Cond := .code yX12_ifSpared cX12_ifSpared 4 (some .long) :: ([.fieldLink RX12 90 "EclipsesKeptModel" "gain" "[J", .methodLink RX12 295 yX12_ways, .instanceMethod yX12_ways, .selects RX12 yX12_ways yX12_ways, .initialized RX12, .code yX12_ways cX12_ways 5 (some .long), .fieldLink RX12 7 "EclipsesKeptModel" "needs" "I", .methodLink RX12 289 yX12_keep, .instanceMethod yX12_keep, .selects RX12 yX12_keep yX12_keep, .code yX12_keep cX12_keep 3 (some .int), .fieldLink RX12 56 "EclipsesKeptModel" "word" "[I", .fieldLink RX12 59 "EclipsesKeptModel" "number" "[I", .methodLink RX12 264 yX12_begin, .instanceMethod yX12_begin, .selects RX12 yX12_begin yX12_begin, .code yX12_begin cX12_begin 1 (some .int), .fieldLink RX12 38 "EclipsesKeptModel" "the" "I", .methodLink RX12 267 yX12_behind, .instanceMethod yX12_behind, .selects RX12 yX12_behind yX12_behind, .code yX12_behind cX12_behind 1 (some .int), .fieldLink RX12 53 "EclipsesKeptModel" "clauses" "[I"] ++ wsX120)
def wsX12_gainOf_r1 : List Cond := [Cond.fieldLink RX12 19 "EclipsesKeptModel" "year" "I", Cond.fieldLink RX12 94 "EclipsesKeptModel" "chosenSet" "I", Cond.methodLink RX12 299 yX12_ifSpared, Cond.instanceMethod yX12_ifSpared, Cond.selects RX12 yX12_ifSpared yX12_ifSpared, Cond.initialized RX12, Cond.code yX12_ifSpared cX12_ifSpared 4 (some .long), Cond.fieldLink RX12 90 "EclipsesKeptModel" "gain" "[J", Cond.methodLink RX12 295 yX12_ways, Cond.instanceMethod yX12_ways, Cond.selects RX12 yX12_ways yX12_ways, Cond.code yX12_ways cX12_ways 5 (some .long), Cond.fieldLink RX12 7 "EclipsesKeptModel" "needs" "I", Cond.methodLink RX12 289 yX12_keep, Cond.instanceMethod yX12_keep, Cond.selects RX12 yX12_keep yX12_keep, Cond.code yX12_keep cX12_keep 3 (some .int), Cond.fieldLink RX12 56 "EclipsesKeptModel" "word" "[I", Cond.fieldLink RX12 59 "EclipsesKeptModel" "number" "[I", Cond.methodLink RX12 264 yX12_begin, Cond.instanceMethod yX12_begin, Cond.selects RX12 yX12_begin yX12_begin, Cond.code yX12_begin cX12_begin 1 (some .int), Cond.fieldLink RX12 38 "EclipsesKeptModel" "the" "I"]
def wsX12_gainOf_r2 : List Cond := [Cond.methodLink RX12 267 yX12_behind, Cond.instanceMethod yX12_behind, Cond.selects RX12 yX12_behind yX12_behind, Cond.code yX12_behind cX12_behind 1 (some .int), Cond.fieldLink RX12 53 "EclipsesKeptModel" "clauses" "[I", Cond.methodLink RX12 303 yX12_ifServed, Cond.instanceMethod yX12_ifServed, Cond.selects RX12 yX12_ifServed yX12_ifServed, Cond.code yX12_ifServed cX12_ifServed 5 (some .long), Cond.methodLink RX12 282 yX12_worthOf, Cond.instanceMethod yX12_worthOf, Cond.selects RX12 yX12_worthOf yX12_worthOf, Cond.code yX12_worthOf cX12_worthOf 7 (some .int), Cond.fieldLink RX12 22 "EclipsesKeptModel" "kind" "[I", Cond.fieldLink RX12 26 "EclipsesKeptModel" "v" "[I", Cond.fieldLink RX12 32 "EclipsesKeptModel" "rows" "[I", Cond.methodLink RX12 278 yX12_base, Cond.instanceMethod yX12_base, Cond.selects RX12 yX12_base yX12_base, Cond.code yX12_base cX12_base 6 (some .int), Cond.methodLink RX12 274 yX12_holds, Cond.instanceMethod yX12_holds, Cond.selects RX12 yX12_holds yX12_holds, Cond.code yX12_holds cX12_holds 10 (some .boolean)]
def wsX12_gainOf_r3 : List Cond := [Cond.fieldLink RX12 62 "EclipsesKeptModel" "from" "[I", Cond.fieldLink RX12 65 "EclipsesKeptModel" "to" "[I", Cond.fieldLink RX12 68 "EclipsesKeptModel" "sign" "[I", Cond.fieldLink RX12 86 "EclipsesKeptModel" "pile" "[Z", Cond.methodLink RX12 270 yX12_factOf, Cond.instanceMethod yX12_factOf, Cond.selects RX12 yX12_factOf yX12_factOf, Cond.code yX12_factOf cX12_factOf 5 (some .int), Cond.methodLink RX12 203 yX12_has, Cond.instanceMethod yX12_has, Cond.selects RX12 yX12_has yX12_has, Cond.code yX12_has cX12_has 3 (some .boolean)]
def wsX12_gainOf : List Cond := .code yX12_gainOf cX12_gainOf 11 (some .long) :: ((wsX12_gainOf_r1 ++ (wsX12_gainOf_r2 ++ wsX12_gainOf_r3)) ++ wsX120)
def wsX12_layGains_r1 : List Cond := [Cond.fieldLink RX12 90 "EclipsesKeptModel" "gain" "[J", Cond.fieldLink RX12 7 "EclipsesKeptModel" "needs" "I", Cond.methodLink RX12 307 yX12_gainOf, Cond.instanceMethod yX12_gainOf, Cond.selects RX12 yX12_gainOf yX12_gainOf, Cond.initialized RX12, Cond.code yX12_gainOf cX12_gainOf 11 (some .long), Cond.fieldLink RX12 19 "EclipsesKeptModel" "year" "I", Cond.fieldLink RX12 94 "EclipsesKeptModel" "chosenSet" "I", Cond.methodLink RX12 299 yX12_ifSpared, Cond.instanceMethod yX12_ifSpared, Cond.selects RX12 yX12_ifSpared yX12_ifSpared, Cond.code yX12_ifSpared cX12_ifSpared 4 (some .long), Cond.methodLink RX12 295 yX12_ways, Cond.instanceMethod yX12_ways, Cond.selects RX12 yX12_ways yX12_ways, Cond.code yX12_ways cX12_ways 5 (some .long), Cond.methodLink RX12 289 yX12_keep, Cond.instanceMethod yX12_keep, Cond.selects RX12 yX12_keep yX12_keep, Cond.code yX12_keep cX12_keep 3 (some .int), Cond.fieldLink RX12 56 "EclipsesKeptModel" "word" "[I", Cond.fieldLink RX12 59 "EclipsesKeptModel" "number" "[I", Cond.methodLink RX12 264 yX12_begin]
def wsX12_layGains_r2 : List Cond := [Cond.instanceMethod yX12_begin, Cond.selects RX12 yX12_begin yX12_begin, Cond.code yX12_begin cX12_begin 1 (some .int), Cond.fieldLink RX12 38 "EclipsesKeptModel" "the" "I", Cond.methodLink RX12 267 yX12_behind, Cond.instanceMethod yX12_behind, Cond.selects RX12 yX12_behind yX12_behind, Cond.code yX12_behind cX12_behind 1 (some .int), Cond.fieldLink RX12 53 "EclipsesKeptModel" "clauses" "[I", Cond.methodLink RX12 303 yX12_ifServed, Cond.instanceMethod yX12_ifServed, Cond.selects RX12 yX12_ifServed yX12_ifServed, Cond.code yX12_ifServed cX12_ifServed 5 (some .long), Cond.methodLink RX12 282 yX12_worthOf, Cond.instanceMethod yX12_worthOf, Cond.selects RX12 yX12_worthOf yX12_worthOf, Cond.code yX12_worthOf cX12_worthOf 7 (some .int), Cond.fieldLink RX12 22 "EclipsesKeptModel" "kind" "[I", Cond.fieldLink RX12 26 "EclipsesKeptModel" "v" "[I", Cond.fieldLink RX12 32 "EclipsesKeptModel" "rows" "[I", Cond.methodLink RX12 278 yX12_base, Cond.instanceMethod yX12_base, Cond.selects RX12 yX12_base yX12_base, Cond.code yX12_base cX12_base 6 (some .int)]
def wsX12_layGains_r3 : List Cond := [Cond.methodLink RX12 274 yX12_holds, Cond.instanceMethod yX12_holds, Cond.selects RX12 yX12_holds yX12_holds, Cond.code yX12_holds cX12_holds 10 (some .boolean), Cond.fieldLink RX12 62 "EclipsesKeptModel" "from" "[I", Cond.fieldLink RX12 65 "EclipsesKeptModel" "to" "[I", Cond.fieldLink RX12 68 "EclipsesKeptModel" "sign" "[I", Cond.fieldLink RX12 86 "EclipsesKeptModel" "pile" "[Z", Cond.methodLink RX12 270 yX12_factOf, Cond.instanceMethod yX12_factOf, Cond.selects RX12 yX12_factOf yX12_factOf, Cond.code yX12_factOf cX12_factOf 5 (some .int), Cond.methodLink RX12 203 yX12_has, Cond.instanceMethod yX12_has, Cond.selects RX12 yX12_has yX12_has, Cond.code yX12_has cX12_has 3 (some .boolean)]
def wsX12_layGains : List Cond := .code yX12_layGains cX12_layGains 8 none :: ((wsX12_layGains_r1 ++ (wsX12_layGains_r2 ++ wsX12_layGains_r3)) ++ wsX120)
def wsX12_divisor : List Cond := .code yX12_divisor cX12_divisor 11 (some .long) :: ([])
def wsX12_lowest : List Cond := .code yX12_lowest cX12_lowest 8 (some .long) :: ([.methodLink RX12 311 yX12_divisor, .instanceMethod yX12_divisor, .selects RX12 yX12_divisor yX12_divisor, .initialized RX12, .code yX12_divisor cX12_divisor 11 (some .long)])
def wsX12_isYears : List Cond := .code yX12_isYears cX12_isYears 2 (some .boolean) :: ([.methodLink RX12 207 yX12_in, .instanceMethod yX12_in, .selects RX12 yX12_in yX12_in, .initialized RX12, .code yX12_in cX12_in 4 (some .boolean)])
def wsX12_isAsked : List Cond := .code yX12_isAsked cX12_isAsked 3 (some .boolean) :: ([.fieldLink RX12 7 "EclipsesKeptModel" "needs" "I", .methodLink RX12 315 yX12_isYears, .instanceMethod yX12_isYears, .selects RX12 yX12_isYears yX12_isYears, .initialized RX12, .code yX12_isYears cX12_isYears 2 (some .boolean), .methodLink RX12 207 yX12_in, .instanceMethod yX12_in, .selects RX12 yX12_in yX12_in, .code yX12_in cX12_in 4 (some .boolean)] ++ wsX120)
def wsX12_mean_r1 : List Cond := [Cond.constantLong RX12 321 (-9223372036854775808), Cond.fieldLink RX12 90 "EclipsesKeptModel" "gain" "[J", Cond.fieldLink RX12 13 "EclipsesKeptModel" "dark" "I", Cond.methodLink RX12 318 yX12_isAsked, Cond.instanceMethod yX12_isAsked, Cond.selects RX12 yX12_isAsked yX12_isAsked, Cond.initialized RX12, Cond.code yX12_isAsked cX12_isAsked 3 (some .boolean), Cond.fieldLink RX12 7 "EclipsesKeptModel" "needs" "I", Cond.methodLink RX12 315 yX12_isYears, Cond.instanceMethod yX12_isYears, Cond.selects RX12 yX12_isYears yX12_isYears, Cond.code yX12_isYears cX12_isYears 2 (some .boolean), Cond.methodLink RX12 207 yX12_in, Cond.instanceMethod yX12_in, Cond.selects RX12 yX12_in yX12_in, Cond.code yX12_in cX12_in 4 (some .boolean), Cond.methodLink RX12 323 yX12_layGains, Cond.instanceMethod yX12_layGains, Cond.selects RX12 yX12_layGains yX12_layGains, Cond.code yX12_layGains cX12_layGains 8 none, Cond.methodLink RX12 307 yX12_gainOf, Cond.instanceMethod yX12_gainOf, Cond.selects RX12 yX12_gainOf yX12_gainOf]
def wsX12_mean_r2 : List Cond := [Cond.code yX12_gainOf cX12_gainOf 11 (some .long), Cond.fieldLink RX12 19 "EclipsesKeptModel" "year" "I", Cond.fieldLink RX12 94 "EclipsesKeptModel" "chosenSet" "I", Cond.methodLink RX12 299 yX12_ifSpared, Cond.instanceMethod yX12_ifSpared, Cond.selects RX12 yX12_ifSpared yX12_ifSpared, Cond.code yX12_ifSpared cX12_ifSpared 4 (some .long), Cond.methodLink RX12 295 yX12_ways, Cond.instanceMethod yX12_ways, Cond.selects RX12 yX12_ways yX12_ways, Cond.code yX12_ways cX12_ways 5 (some .long), Cond.methodLink RX12 289 yX12_keep, Cond.instanceMethod yX12_keep, Cond.selects RX12 yX12_keep yX12_keep, Cond.code yX12_keep cX12_keep 3 (some .int), Cond.fieldLink RX12 56 "EclipsesKeptModel" "word" "[I", Cond.fieldLink RX12 59 "EclipsesKeptModel" "number" "[I", Cond.methodLink RX12 264 yX12_begin, Cond.instanceMethod yX12_begin, Cond.selects RX12 yX12_begin yX12_begin, Cond.code yX12_begin cX12_begin 1 (some .int), Cond.fieldLink RX12 38 "EclipsesKeptModel" "the" "I", Cond.methodLink RX12 267 yX12_behind, Cond.instanceMethod yX12_behind]
def wsX12_mean_r3 : List Cond := [Cond.selects RX12 yX12_behind yX12_behind, Cond.code yX12_behind cX12_behind 1 (some .int), Cond.fieldLink RX12 53 "EclipsesKeptModel" "clauses" "[I", Cond.methodLink RX12 303 yX12_ifServed, Cond.instanceMethod yX12_ifServed, Cond.selects RX12 yX12_ifServed yX12_ifServed, Cond.code yX12_ifServed cX12_ifServed 5 (some .long), Cond.methodLink RX12 282 yX12_worthOf, Cond.instanceMethod yX12_worthOf, Cond.selects RX12 yX12_worthOf yX12_worthOf, Cond.code yX12_worthOf cX12_worthOf 7 (some .int), Cond.fieldLink RX12 22 "EclipsesKeptModel" "kind" "[I", Cond.fieldLink RX12 26 "EclipsesKeptModel" "v" "[I", Cond.fieldLink RX12 32 "EclipsesKeptModel" "rows" "[I", Cond.methodLink RX12 278 yX12_base, Cond.instanceMethod yX12_base, Cond.selects RX12 yX12_base yX12_base, Cond.code yX12_base cX12_base 6 (some .int), Cond.methodLink RX12 274 yX12_holds, Cond.instanceMethod yX12_holds, Cond.selects RX12 yX12_holds yX12_holds, Cond.code yX12_holds cX12_holds 10 (some .boolean), Cond.fieldLink RX12 62 "EclipsesKeptModel" "from" "[I", Cond.fieldLink RX12 65 "EclipsesKeptModel" "to" "[I"]
def wsX12_mean_r4 : List Cond := [Cond.fieldLink RX12 68 "EclipsesKeptModel" "sign" "[I", Cond.fieldLink RX12 86 "EclipsesKeptModel" "pile" "[Z", Cond.methodLink RX12 270 yX12_factOf, Cond.instanceMethod yX12_factOf, Cond.selects RX12 yX12_factOf yX12_factOf, Cond.code yX12_factOf cX12_factOf 5 (some .int), Cond.methodLink RX12 203 yX12_has, Cond.instanceMethod yX12_has, Cond.selects RX12 yX12_has yX12_has, Cond.code yX12_has cX12_has 3 (some .boolean), Cond.methodLink RX12 327 yX12_lowest, Cond.instanceMethod yX12_lowest, Cond.selects RX12 yX12_lowest yX12_lowest, Cond.code yX12_lowest cX12_lowest 8 (some .long), Cond.methodLink RX12 311 yX12_divisor, Cond.instanceMethod yX12_divisor, Cond.selects RX12 yX12_divisor yX12_divisor, Cond.code yX12_divisor cX12_divisor 11 (some .long)]
def wsX12_mean : List Cond := .code yX12_mean cX12_mean 3 (some .long) :: ((wsX12_mean_r1 ++ (wsX12_mean_r2 ++ (wsX12_mean_r3 ++ wsX12_mean_r4))) ++ wsX120)
def wsX12_price_r1 : List Cond := [Cond.fieldLink RX12 13 "EclipsesKeptModel" "dark" "I", Cond.constantLong RX12 321 (-9223372036854775808), Cond.fieldLink RX12 90 "EclipsesKeptModel" "gain" "[J", Cond.methodLink RX12 318 yX12_isAsked, Cond.instanceMethod yX12_isAsked, Cond.selects RX12 yX12_isAsked yX12_isAsked, Cond.initialized RX12, Cond.code yX12_isAsked cX12_isAsked 3 (some .boolean), Cond.fieldLink RX12 7 "EclipsesKeptModel" "needs" "I", Cond.methodLink RX12 315 yX12_isYears, Cond.instanceMethod yX12_isYears, Cond.selects RX12 yX12_isYears yX12_isYears, Cond.code yX12_isYears cX12_isYears 2 (some .boolean), Cond.methodLink RX12 207 yX12_in, Cond.instanceMethod yX12_in, Cond.selects RX12 yX12_in yX12_in, Cond.code yX12_in cX12_in 4 (some .boolean), Cond.methodLink RX12 323 yX12_layGains, Cond.instanceMethod yX12_layGains, Cond.selects RX12 yX12_layGains yX12_layGains, Cond.code yX12_layGains cX12_layGains 8 none, Cond.methodLink RX12 307 yX12_gainOf, Cond.instanceMethod yX12_gainOf, Cond.selects RX12 yX12_gainOf yX12_gainOf]
def wsX12_price_r2 : List Cond := [Cond.code yX12_gainOf cX12_gainOf 11 (some .long), Cond.fieldLink RX12 19 "EclipsesKeptModel" "year" "I", Cond.fieldLink RX12 94 "EclipsesKeptModel" "chosenSet" "I", Cond.methodLink RX12 299 yX12_ifSpared, Cond.instanceMethod yX12_ifSpared, Cond.selects RX12 yX12_ifSpared yX12_ifSpared, Cond.code yX12_ifSpared cX12_ifSpared 4 (some .long), Cond.methodLink RX12 295 yX12_ways, Cond.instanceMethod yX12_ways, Cond.selects RX12 yX12_ways yX12_ways, Cond.code yX12_ways cX12_ways 5 (some .long), Cond.methodLink RX12 289 yX12_keep, Cond.instanceMethod yX12_keep, Cond.selects RX12 yX12_keep yX12_keep, Cond.code yX12_keep cX12_keep 3 (some .int), Cond.fieldLink RX12 56 "EclipsesKeptModel" "word" "[I", Cond.fieldLink RX12 59 "EclipsesKeptModel" "number" "[I", Cond.methodLink RX12 264 yX12_begin, Cond.instanceMethod yX12_begin, Cond.selects RX12 yX12_begin yX12_begin, Cond.code yX12_begin cX12_begin 1 (some .int), Cond.fieldLink RX12 38 "EclipsesKeptModel" "the" "I", Cond.methodLink RX12 267 yX12_behind, Cond.instanceMethod yX12_behind]
def wsX12_price_r3 : List Cond := [Cond.selects RX12 yX12_behind yX12_behind, Cond.code yX12_behind cX12_behind 1 (some .int), Cond.fieldLink RX12 53 "EclipsesKeptModel" "clauses" "[I", Cond.methodLink RX12 303 yX12_ifServed, Cond.instanceMethod yX12_ifServed, Cond.selects RX12 yX12_ifServed yX12_ifServed, Cond.code yX12_ifServed cX12_ifServed 5 (some .long), Cond.methodLink RX12 282 yX12_worthOf, Cond.instanceMethod yX12_worthOf, Cond.selects RX12 yX12_worthOf yX12_worthOf, Cond.code yX12_worthOf cX12_worthOf 7 (some .int), Cond.fieldLink RX12 22 "EclipsesKeptModel" "kind" "[I", Cond.fieldLink RX12 26 "EclipsesKeptModel" "v" "[I", Cond.fieldLink RX12 32 "EclipsesKeptModel" "rows" "[I", Cond.methodLink RX12 278 yX12_base, Cond.instanceMethod yX12_base, Cond.selects RX12 yX12_base yX12_base, Cond.code yX12_base cX12_base 6 (some .int), Cond.methodLink RX12 274 yX12_holds, Cond.instanceMethod yX12_holds, Cond.selects RX12 yX12_holds yX12_holds, Cond.code yX12_holds cX12_holds 10 (some .boolean), Cond.fieldLink RX12 62 "EclipsesKeptModel" "from" "[I", Cond.fieldLink RX12 65 "EclipsesKeptModel" "to" "[I"]
def wsX12_price_r4 : List Cond := [Cond.fieldLink RX12 68 "EclipsesKeptModel" "sign" "[I", Cond.fieldLink RX12 86 "EclipsesKeptModel" "pile" "[Z", Cond.methodLink RX12 270 yX12_factOf, Cond.instanceMethod yX12_factOf, Cond.selects RX12 yX12_factOf yX12_factOf, Cond.code yX12_factOf cX12_factOf 5 (some .int), Cond.methodLink RX12 203 yX12_has, Cond.instanceMethod yX12_has, Cond.selects RX12 yX12_has yX12_has, Cond.code yX12_has cX12_has 3 (some .boolean), Cond.methodLink RX12 327 yX12_lowest, Cond.instanceMethod yX12_lowest, Cond.selects RX12 yX12_lowest yX12_lowest, Cond.code yX12_lowest cX12_lowest 8 (some .long), Cond.methodLink RX12 311 yX12_divisor, Cond.instanceMethod yX12_divisor, Cond.selects RX12 yX12_divisor yX12_divisor, Cond.code yX12_divisor cX12_divisor 11 (some .long)]
def wsX12_price : List Cond := .code yX12_price cX12_price 3 (some .long) :: ((wsX12_price_r1 ++ (wsX12_price_r2 ++ (wsX12_price_r3 ++ wsX12_price_r4))) ++ wsX120)
def wsX12_greedy_r1 : List Cond := [Cond.constantLong RX12 321 (-9223372036854775808), Cond.fieldLink RX12 90 "EclipsesKeptModel" "gain" "[J", Cond.fieldLink RX12 13 "EclipsesKeptModel" "dark" "I", Cond.methodLink RX12 318 yX12_isAsked, Cond.instanceMethod yX12_isAsked, Cond.selects RX12 yX12_isAsked yX12_isAsked, Cond.initialized RX12, Cond.code yX12_isAsked cX12_isAsked 3 (some .boolean), Cond.fieldLink RX12 7 "EclipsesKeptModel" "needs" "I", Cond.methodLink RX12 315 yX12_isYears, Cond.instanceMethod yX12_isYears, Cond.selects RX12 yX12_isYears yX12_isYears, Cond.code yX12_isYears cX12_isYears 2 (some .boolean), Cond.methodLink RX12 207 yX12_in, Cond.instanceMethod yX12_in, Cond.selects RX12 yX12_in yX12_in, Cond.code yX12_in cX12_in 4 (some .boolean), Cond.methodLink RX12 323 yX12_layGains, Cond.instanceMethod yX12_layGains, Cond.selects RX12 yX12_layGains yX12_layGains, Cond.code yX12_layGains cX12_layGains 8 none, Cond.methodLink RX12 307 yX12_gainOf, Cond.instanceMethod yX12_gainOf, Cond.selects RX12 yX12_gainOf yX12_gainOf]
def wsX12_greedy_r2 : List Cond := [Cond.code yX12_gainOf cX12_gainOf 11 (some .long), Cond.fieldLink RX12 19 "EclipsesKeptModel" "year" "I", Cond.fieldLink RX12 94 "EclipsesKeptModel" "chosenSet" "I", Cond.methodLink RX12 299 yX12_ifSpared, Cond.instanceMethod yX12_ifSpared, Cond.selects RX12 yX12_ifSpared yX12_ifSpared, Cond.code yX12_ifSpared cX12_ifSpared 4 (some .long), Cond.methodLink RX12 295 yX12_ways, Cond.instanceMethod yX12_ways, Cond.selects RX12 yX12_ways yX12_ways, Cond.code yX12_ways cX12_ways 5 (some .long), Cond.methodLink RX12 289 yX12_keep, Cond.instanceMethod yX12_keep, Cond.selects RX12 yX12_keep yX12_keep, Cond.code yX12_keep cX12_keep 3 (some .int), Cond.fieldLink RX12 56 "EclipsesKeptModel" "word" "[I", Cond.fieldLink RX12 59 "EclipsesKeptModel" "number" "[I", Cond.methodLink RX12 264 yX12_begin, Cond.instanceMethod yX12_begin, Cond.selects RX12 yX12_begin yX12_begin, Cond.code yX12_begin cX12_begin 1 (some .int), Cond.fieldLink RX12 38 "EclipsesKeptModel" "the" "I", Cond.methodLink RX12 267 yX12_behind, Cond.instanceMethod yX12_behind]
def wsX12_greedy_r3 : List Cond := [Cond.selects RX12 yX12_behind yX12_behind, Cond.code yX12_behind cX12_behind 1 (some .int), Cond.fieldLink RX12 53 "EclipsesKeptModel" "clauses" "[I", Cond.methodLink RX12 303 yX12_ifServed, Cond.instanceMethod yX12_ifServed, Cond.selects RX12 yX12_ifServed yX12_ifServed, Cond.code yX12_ifServed cX12_ifServed 5 (some .long), Cond.methodLink RX12 282 yX12_worthOf, Cond.instanceMethod yX12_worthOf, Cond.selects RX12 yX12_worthOf yX12_worthOf, Cond.code yX12_worthOf cX12_worthOf 7 (some .int), Cond.fieldLink RX12 22 "EclipsesKeptModel" "kind" "[I", Cond.fieldLink RX12 26 "EclipsesKeptModel" "v" "[I", Cond.fieldLink RX12 32 "EclipsesKeptModel" "rows" "[I", Cond.methodLink RX12 278 yX12_base, Cond.instanceMethod yX12_base, Cond.selects RX12 yX12_base yX12_base, Cond.code yX12_base cX12_base 6 (some .int), Cond.methodLink RX12 274 yX12_holds, Cond.instanceMethod yX12_holds, Cond.selects RX12 yX12_holds yX12_holds, Cond.code yX12_holds cX12_holds 10 (some .boolean), Cond.fieldLink RX12 62 "EclipsesKeptModel" "from" "[I", Cond.fieldLink RX12 65 "EclipsesKeptModel" "to" "[I"]
def wsX12_greedy_r4 : List Cond := [Cond.fieldLink RX12 68 "EclipsesKeptModel" "sign" "[I", Cond.fieldLink RX12 86 "EclipsesKeptModel" "pile" "[Z", Cond.methodLink RX12 270 yX12_factOf, Cond.instanceMethod yX12_factOf, Cond.selects RX12 yX12_factOf yX12_factOf, Cond.code yX12_factOf cX12_factOf 5 (some .int), Cond.methodLink RX12 203 yX12_has, Cond.instanceMethod yX12_has, Cond.selects RX12 yX12_has yX12_has, Cond.code yX12_has cX12_has 3 (some .boolean), Cond.methodLink RX12 327 yX12_lowest, Cond.instanceMethod yX12_lowest, Cond.selects RX12 yX12_lowest yX12_lowest, Cond.code yX12_lowest cX12_lowest 8 (some .long), Cond.methodLink RX12 311 yX12_divisor, Cond.instanceMethod yX12_divisor, Cond.selects RX12 yX12_divisor yX12_divisor, Cond.code yX12_divisor cX12_divisor 11 (some .long)]
def wsX12_greedy : List Cond := .code yX12_greedy cX12_greedy 3 (some .long) :: ((wsX12_greedy_r1 ++ (wsX12_greedy_r2 ++ (wsX12_greedy_r3 ++ wsX12_greedy_r4))) ++ wsX120)
def wsX12_only_r1 : List Cond := [Cond.constantLong RX12 321 (-9223372036854775808), Cond.fieldLink RX12 94 "EclipsesKeptModel" "chosenSet" "I", Cond.fieldLink RX12 90 "EclipsesKeptModel" "gain" "[J", Cond.fieldLink RX12 13 "EclipsesKeptModel" "dark" "I", Cond.methodLink RX12 207 yX12_in, Cond.instanceMethod yX12_in, Cond.selects RX12 yX12_in yX12_in, Cond.initialized RX12, Cond.code yX12_in cX12_in 4 (some .boolean), Cond.methodLink RX12 318 yX12_isAsked, Cond.instanceMethod yX12_isAsked, Cond.selects RX12 yX12_isAsked yX12_isAsked, Cond.code yX12_isAsked cX12_isAsked 3 (some .boolean), Cond.fieldLink RX12 7 "EclipsesKeptModel" "needs" "I", Cond.methodLink RX12 315 yX12_isYears, Cond.instanceMethod yX12_isYears, Cond.selects RX12 yX12_isYears yX12_isYears, Cond.code yX12_isYears cX12_isYears 2 (some .boolean), Cond.methodLink RX12 323 yX12_layGains, Cond.instanceMethod yX12_layGains, Cond.selects RX12 yX12_layGains yX12_layGains, Cond.code yX12_layGains cX12_layGains 8 none, Cond.methodLink RX12 307 yX12_gainOf, Cond.instanceMethod yX12_gainOf]
def wsX12_only_r2 : List Cond := [Cond.selects RX12 yX12_gainOf yX12_gainOf, Cond.code yX12_gainOf cX12_gainOf 11 (some .long), Cond.fieldLink RX12 19 "EclipsesKeptModel" "year" "I", Cond.methodLink RX12 299 yX12_ifSpared, Cond.instanceMethod yX12_ifSpared, Cond.selects RX12 yX12_ifSpared yX12_ifSpared, Cond.code yX12_ifSpared cX12_ifSpared 4 (some .long), Cond.methodLink RX12 295 yX12_ways, Cond.instanceMethod yX12_ways, Cond.selects RX12 yX12_ways yX12_ways, Cond.code yX12_ways cX12_ways 5 (some .long), Cond.methodLink RX12 289 yX12_keep, Cond.instanceMethod yX12_keep, Cond.selects RX12 yX12_keep yX12_keep, Cond.code yX12_keep cX12_keep 3 (some .int), Cond.fieldLink RX12 56 "EclipsesKeptModel" "word" "[I", Cond.fieldLink RX12 59 "EclipsesKeptModel" "number" "[I", Cond.methodLink RX12 264 yX12_begin, Cond.instanceMethod yX12_begin, Cond.selects RX12 yX12_begin yX12_begin, Cond.code yX12_begin cX12_begin 1 (some .int), Cond.fieldLink RX12 38 "EclipsesKeptModel" "the" "I", Cond.methodLink RX12 267 yX12_behind, Cond.instanceMethod yX12_behind]
def wsX12_only_r3 : List Cond := [Cond.selects RX12 yX12_behind yX12_behind, Cond.code yX12_behind cX12_behind 1 (some .int), Cond.fieldLink RX12 53 "EclipsesKeptModel" "clauses" "[I", Cond.methodLink RX12 303 yX12_ifServed, Cond.instanceMethod yX12_ifServed, Cond.selects RX12 yX12_ifServed yX12_ifServed, Cond.code yX12_ifServed cX12_ifServed 5 (some .long), Cond.methodLink RX12 282 yX12_worthOf, Cond.instanceMethod yX12_worthOf, Cond.selects RX12 yX12_worthOf yX12_worthOf, Cond.code yX12_worthOf cX12_worthOf 7 (some .int), Cond.fieldLink RX12 22 "EclipsesKeptModel" "kind" "[I", Cond.fieldLink RX12 26 "EclipsesKeptModel" "v" "[I", Cond.fieldLink RX12 32 "EclipsesKeptModel" "rows" "[I", Cond.methodLink RX12 278 yX12_base, Cond.instanceMethod yX12_base, Cond.selects RX12 yX12_base yX12_base, Cond.code yX12_base cX12_base 6 (some .int), Cond.methodLink RX12 274 yX12_holds, Cond.instanceMethod yX12_holds, Cond.selects RX12 yX12_holds yX12_holds, Cond.code yX12_holds cX12_holds 10 (some .boolean), Cond.fieldLink RX12 62 "EclipsesKeptModel" "from" "[I", Cond.fieldLink RX12 65 "EclipsesKeptModel" "to" "[I"]
def wsX12_only_r4 : List Cond := [Cond.fieldLink RX12 68 "EclipsesKeptModel" "sign" "[I", Cond.fieldLink RX12 86 "EclipsesKeptModel" "pile" "[Z", Cond.methodLink RX12 270 yX12_factOf, Cond.instanceMethod yX12_factOf, Cond.selects RX12 yX12_factOf yX12_factOf, Cond.code yX12_factOf cX12_factOf 5 (some .int), Cond.methodLink RX12 203 yX12_has, Cond.instanceMethod yX12_has, Cond.selects RX12 yX12_has yX12_has, Cond.code yX12_has cX12_has 3 (some .boolean), Cond.methodLink RX12 327 yX12_lowest, Cond.instanceMethod yX12_lowest, Cond.selects RX12 yX12_lowest yX12_lowest, Cond.code yX12_lowest cX12_lowest 8 (some .long), Cond.methodLink RX12 311 yX12_divisor, Cond.instanceMethod yX12_divisor, Cond.selects RX12 yX12_divisor yX12_divisor, Cond.code yX12_divisor cX12_divisor 11 (some .long)]
def wsX12_only : List Cond := .code yX12_only cX12_only 4 (some .long) :: ((wsX12_only_r1 ++ (wsX12_only_r2 ++ (wsX12_only_r3 ++ wsX12_only_r4))) ++ wsX120)
def wsX12_chosen_r1 : List Cond := [Cond.fieldLink RX12 7 "EclipsesKeptModel" "needs" "I", Cond.fieldLink RX12 94 "EclipsesKeptModel" "chosenSet" "I", Cond.fieldLink RX12 90 "EclipsesKeptModel" "gain" "[J", Cond.fieldLink RX12 13 "EclipsesKeptModel" "dark" "I", Cond.methodLink RX12 315 yX12_isYears, Cond.instanceMethod yX12_isYears, Cond.selects RX12 yX12_isYears yX12_isYears, Cond.initialized RX12, Cond.code yX12_isYears cX12_isYears 2 (some .boolean), Cond.methodLink RX12 207 yX12_in, Cond.instanceMethod yX12_in, Cond.selects RX12 yX12_in yX12_in, Cond.code yX12_in cX12_in 4 (some .boolean), Cond.methodLink RX12 323 yX12_layGains, Cond.instanceMethod yX12_layGains, Cond.selects RX12 yX12_layGains yX12_layGains, Cond.code yX12_layGains cX12_layGains 8 none, Cond.methodLink RX12 307 yX12_gainOf, Cond.instanceMethod yX12_gainOf, Cond.selects RX12 yX12_gainOf yX12_gainOf, Cond.code yX12_gainOf cX12_gainOf 11 (some .long), Cond.fieldLink RX12 19 "EclipsesKeptModel" "year" "I", Cond.methodLink RX12 299 yX12_ifSpared, Cond.instanceMethod yX12_ifSpared]
def wsX12_chosen_r2 : List Cond := [Cond.selects RX12 yX12_ifSpared yX12_ifSpared, Cond.code yX12_ifSpared cX12_ifSpared 4 (some .long), Cond.methodLink RX12 295 yX12_ways, Cond.instanceMethod yX12_ways, Cond.selects RX12 yX12_ways yX12_ways, Cond.code yX12_ways cX12_ways 5 (some .long), Cond.methodLink RX12 289 yX12_keep, Cond.instanceMethod yX12_keep, Cond.selects RX12 yX12_keep yX12_keep, Cond.code yX12_keep cX12_keep 3 (some .int), Cond.fieldLink RX12 56 "EclipsesKeptModel" "word" "[I", Cond.fieldLink RX12 59 "EclipsesKeptModel" "number" "[I", Cond.methodLink RX12 264 yX12_begin, Cond.instanceMethod yX12_begin, Cond.selects RX12 yX12_begin yX12_begin, Cond.code yX12_begin cX12_begin 1 (some .int), Cond.fieldLink RX12 38 "EclipsesKeptModel" "the" "I", Cond.methodLink RX12 267 yX12_behind, Cond.instanceMethod yX12_behind, Cond.selects RX12 yX12_behind yX12_behind, Cond.code yX12_behind cX12_behind 1 (some .int), Cond.fieldLink RX12 53 "EclipsesKeptModel" "clauses" "[I", Cond.methodLink RX12 303 yX12_ifServed, Cond.instanceMethod yX12_ifServed]
def wsX12_chosen_r3 : List Cond := [Cond.selects RX12 yX12_ifServed yX12_ifServed, Cond.code yX12_ifServed cX12_ifServed 5 (some .long), Cond.methodLink RX12 282 yX12_worthOf, Cond.instanceMethod yX12_worthOf, Cond.selects RX12 yX12_worthOf yX12_worthOf, Cond.code yX12_worthOf cX12_worthOf 7 (some .int), Cond.fieldLink RX12 22 "EclipsesKeptModel" "kind" "[I", Cond.fieldLink RX12 26 "EclipsesKeptModel" "v" "[I", Cond.fieldLink RX12 32 "EclipsesKeptModel" "rows" "[I", Cond.methodLink RX12 278 yX12_base, Cond.instanceMethod yX12_base, Cond.selects RX12 yX12_base yX12_base, Cond.code yX12_base cX12_base 6 (some .int), Cond.methodLink RX12 274 yX12_holds, Cond.instanceMethod yX12_holds, Cond.selects RX12 yX12_holds yX12_holds, Cond.code yX12_holds cX12_holds 10 (some .boolean), Cond.fieldLink RX12 62 "EclipsesKeptModel" "from" "[I", Cond.fieldLink RX12 65 "EclipsesKeptModel" "to" "[I", Cond.fieldLink RX12 68 "EclipsesKeptModel" "sign" "[I", Cond.fieldLink RX12 86 "EclipsesKeptModel" "pile" "[Z", Cond.methodLink RX12 270 yX12_factOf, Cond.instanceMethod yX12_factOf, Cond.selects RX12 yX12_factOf yX12_factOf]
def wsX12_chosen_r4 : List Cond := [Cond.code yX12_factOf cX12_factOf 5 (some .int), Cond.methodLink RX12 203 yX12_has, Cond.instanceMethod yX12_has, Cond.selects RX12 yX12_has yX12_has, Cond.code yX12_has cX12_has 3 (some .boolean)]
def wsX12_chosen : List Cond := .code yX12_chosen cX12_chosen 6 (some .int) :: ((wsX12_chosen_r1 ++ (wsX12_chosen_r2 ++ (wsX12_chosen_r3 ++ wsX12_chosen_r4))) ++ wsX120)
def wsX12_wise_r1 : List Cond := [Cond.fieldLink RX12 13 "EclipsesKeptModel" "dark" "I", Cond.methodLink RX12 215 yX12_isNeed, Cond.instanceMethod yX12_isNeed, Cond.selects RX12 yX12_isNeed yX12_isNeed, Cond.initialized RX12, Cond.code yX12_isNeed cX12_isNeed 2 (some .boolean), Cond.fieldLink RX12 7 "EclipsesKeptModel" "needs" "I", Cond.methodLink RX12 207 yX12_in, Cond.instanceMethod yX12_in, Cond.selects RX12 yX12_in yX12_in, Cond.code yX12_in cX12_in 4 (some .boolean), Cond.methodLink RX12 323 yX12_layGains, Cond.instanceMethod yX12_layGains, Cond.selects RX12 yX12_layGains yX12_layGains, Cond.code yX12_layGains cX12_layGains 8 none, Cond.fieldLink RX12 90 "EclipsesKeptModel" "gain" "[J", Cond.methodLink RX12 307 yX12_gainOf, Cond.instanceMethod yX12_gainOf, Cond.selects RX12 yX12_gainOf yX12_gainOf, Cond.code yX12_gainOf cX12_gainOf 11 (some .long), Cond.fieldLink RX12 19 "EclipsesKeptModel" "year" "I", Cond.fieldLink RX12 94 "EclipsesKeptModel" "chosenSet" "I", Cond.methodLink RX12 299 yX12_ifSpared, Cond.instanceMethod yX12_ifSpared]
def wsX12_wise_r2 : List Cond := [Cond.selects RX12 yX12_ifSpared yX12_ifSpared, Cond.code yX12_ifSpared cX12_ifSpared 4 (some .long), Cond.methodLink RX12 295 yX12_ways, Cond.instanceMethod yX12_ways, Cond.selects RX12 yX12_ways yX12_ways, Cond.code yX12_ways cX12_ways 5 (some .long), Cond.methodLink RX12 289 yX12_keep, Cond.instanceMethod yX12_keep, Cond.selects RX12 yX12_keep yX12_keep, Cond.code yX12_keep cX12_keep 3 (some .int), Cond.fieldLink RX12 56 "EclipsesKeptModel" "word" "[I", Cond.fieldLink RX12 59 "EclipsesKeptModel" "number" "[I", Cond.methodLink RX12 264 yX12_begin, Cond.instanceMethod yX12_begin, Cond.selects RX12 yX12_begin yX12_begin, Cond.code yX12_begin cX12_begin 1 (some .int), Cond.fieldLink RX12 38 "EclipsesKeptModel" "the" "I", Cond.methodLink RX12 267 yX12_behind, Cond.instanceMethod yX12_behind, Cond.selects RX12 yX12_behind yX12_behind, Cond.code yX12_behind cX12_behind 1 (some .int), Cond.fieldLink RX12 53 "EclipsesKeptModel" "clauses" "[I", Cond.methodLink RX12 303 yX12_ifServed, Cond.instanceMethod yX12_ifServed]
def wsX12_wise_r3 : List Cond := [Cond.selects RX12 yX12_ifServed yX12_ifServed, Cond.code yX12_ifServed cX12_ifServed 5 (some .long), Cond.methodLink RX12 282 yX12_worthOf, Cond.instanceMethod yX12_worthOf, Cond.selects RX12 yX12_worthOf yX12_worthOf, Cond.code yX12_worthOf cX12_worthOf 7 (some .int), Cond.fieldLink RX12 22 "EclipsesKeptModel" "kind" "[I", Cond.fieldLink RX12 26 "EclipsesKeptModel" "v" "[I", Cond.fieldLink RX12 32 "EclipsesKeptModel" "rows" "[I", Cond.methodLink RX12 278 yX12_base, Cond.instanceMethod yX12_base, Cond.selects RX12 yX12_base yX12_base, Cond.code yX12_base cX12_base 6 (some .int), Cond.methodLink RX12 274 yX12_holds, Cond.instanceMethod yX12_holds, Cond.selects RX12 yX12_holds yX12_holds, Cond.code yX12_holds cX12_holds 10 (some .boolean), Cond.fieldLink RX12 62 "EclipsesKeptModel" "from" "[I", Cond.fieldLink RX12 65 "EclipsesKeptModel" "to" "[I", Cond.fieldLink RX12 68 "EclipsesKeptModel" "sign" "[I", Cond.fieldLink RX12 86 "EclipsesKeptModel" "pile" "[Z", Cond.methodLink RX12 270 yX12_factOf, Cond.instanceMethod yX12_factOf, Cond.selects RX12 yX12_factOf yX12_factOf]
def wsX12_wise_r4 : List Cond := [Cond.code yX12_factOf cX12_factOf 5 (some .int), Cond.methodLink RX12 203 yX12_has, Cond.instanceMethod yX12_has, Cond.selects RX12 yX12_has yX12_has, Cond.code yX12_has cX12_has 3 (some .boolean)]
def wsX12_wise : List Cond := .code yX12_wise cX12_wise 3 (some .int) :: ((wsX12_wise_r1 ++ (wsX12_wise_r2 ++ (wsX12_wise_r3 ++ wsX12_wise_r4))) ++ wsX120)
def wsX12_spent_r1 : List Cond := [Cond.constantLong RX12 321 (-9223372036854775808), Cond.fieldLink RX12 97 "EclipsesKeptModel" "out" "[J", Cond.fieldLink RX12 7 "EclipsesKeptModel" "needs" "I", Cond.fieldLink RX12 13 "EclipsesKeptModel" "dark" "I", Cond.methodLink RX12 318 yX12_isAsked, Cond.instanceMethod yX12_isAsked, Cond.selects RX12 yX12_isAsked yX12_isAsked, Cond.initialized RX12, Cond.code yX12_isAsked cX12_isAsked 3 (some .boolean), Cond.methodLink RX12 315 yX12_isYears, Cond.instanceMethod yX12_isYears, Cond.selects RX12 yX12_isYears yX12_isYears, Cond.code yX12_isYears cX12_isYears 2 (some .boolean), Cond.methodLink RX12 207 yX12_in, Cond.instanceMethod yX12_in, Cond.selects RX12 yX12_in yX12_in, Cond.code yX12_in cX12_in 4 (some .boolean), Cond.methodLink RX12 323 yX12_layGains, Cond.instanceMethod yX12_layGains, Cond.selects RX12 yX12_layGains yX12_layGains, Cond.code yX12_layGains cX12_layGains 8 none, Cond.fieldLink RX12 90 "EclipsesKeptModel" "gain" "[J", Cond.methodLink RX12 307 yX12_gainOf, Cond.instanceMethod yX12_gainOf]
def wsX12_spent_r2 : List Cond := [Cond.selects RX12 yX12_gainOf yX12_gainOf, Cond.code yX12_gainOf cX12_gainOf 11 (some .long), Cond.fieldLink RX12 19 "EclipsesKeptModel" "year" "I", Cond.fieldLink RX12 94 "EclipsesKeptModel" "chosenSet" "I", Cond.methodLink RX12 299 yX12_ifSpared, Cond.instanceMethod yX12_ifSpared, Cond.selects RX12 yX12_ifSpared yX12_ifSpared, Cond.code yX12_ifSpared cX12_ifSpared 4 (some .long), Cond.methodLink RX12 295 yX12_ways, Cond.instanceMethod yX12_ways, Cond.selects RX12 yX12_ways yX12_ways, Cond.code yX12_ways cX12_ways 5 (some .long), Cond.methodLink RX12 289 yX12_keep, Cond.instanceMethod yX12_keep, Cond.selects RX12 yX12_keep yX12_keep, Cond.code yX12_keep cX12_keep 3 (some .int), Cond.fieldLink RX12 56 "EclipsesKeptModel" "word" "[I", Cond.fieldLink RX12 59 "EclipsesKeptModel" "number" "[I", Cond.methodLink RX12 264 yX12_begin, Cond.instanceMethod yX12_begin, Cond.selects RX12 yX12_begin yX12_begin, Cond.code yX12_begin cX12_begin 1 (some .int), Cond.fieldLink RX12 38 "EclipsesKeptModel" "the" "I", Cond.methodLink RX12 267 yX12_behind]
def wsX12_spent_r3 : List Cond := [Cond.instanceMethod yX12_behind, Cond.selects RX12 yX12_behind yX12_behind, Cond.code yX12_behind cX12_behind 1 (some .int), Cond.fieldLink RX12 53 "EclipsesKeptModel" "clauses" "[I", Cond.methodLink RX12 303 yX12_ifServed, Cond.instanceMethod yX12_ifServed, Cond.selects RX12 yX12_ifServed yX12_ifServed, Cond.code yX12_ifServed cX12_ifServed 5 (some .long), Cond.methodLink RX12 282 yX12_worthOf, Cond.instanceMethod yX12_worthOf, Cond.selects RX12 yX12_worthOf yX12_worthOf, Cond.code yX12_worthOf cX12_worthOf 7 (some .int), Cond.fieldLink RX12 22 "EclipsesKeptModel" "kind" "[I", Cond.fieldLink RX12 26 "EclipsesKeptModel" "v" "[I", Cond.fieldLink RX12 32 "EclipsesKeptModel" "rows" "[I", Cond.methodLink RX12 278 yX12_base, Cond.instanceMethod yX12_base, Cond.selects RX12 yX12_base yX12_base, Cond.code yX12_base cX12_base 6 (some .int), Cond.methodLink RX12 274 yX12_holds, Cond.instanceMethod yX12_holds, Cond.selects RX12 yX12_holds yX12_holds, Cond.code yX12_holds cX12_holds 10 (some .boolean), Cond.fieldLink RX12 62 "EclipsesKeptModel" "from" "[I"]
def wsX12_spent_r4 : List Cond := [Cond.fieldLink RX12 65 "EclipsesKeptModel" "to" "[I", Cond.fieldLink RX12 68 "EclipsesKeptModel" "sign" "[I", Cond.fieldLink RX12 86 "EclipsesKeptModel" "pile" "[Z", Cond.methodLink RX12 270 yX12_factOf, Cond.instanceMethod yX12_factOf, Cond.selects RX12 yX12_factOf yX12_factOf, Cond.code yX12_factOf cX12_factOf 5 (some .int), Cond.methodLink RX12 203 yX12_has, Cond.instanceMethod yX12_has, Cond.selects RX12 yX12_has yX12_has, Cond.code yX12_has cX12_has 3 (some .boolean), Cond.methodLink RX12 327 yX12_lowest, Cond.instanceMethod yX12_lowest, Cond.selects RX12 yX12_lowest yX12_lowest, Cond.code yX12_lowest cX12_lowest 8 (some .long), Cond.methodLink RX12 311 yX12_divisor, Cond.instanceMethod yX12_divisor, Cond.selects RX12 yX12_divisor yX12_divisor, Cond.code yX12_divisor cX12_divisor 11 (some .long)]
def wsX12_spent : List Cond := .code yX12_spent cX12_spent 8 (some .long) :: ((wsX12_spent_r1 ++ (wsX12_spent_r2 ++ (wsX12_spent_r3 ++ wsX12_spent_r4))) ++ wsX120)
def wsX12_threshold_r1 : List Cond := [Cond.fieldLink RX12 13 "EclipsesKeptModel" "dark" "I", Cond.fieldLink RX12 7 "EclipsesKeptModel" "needs" "I", Cond.fieldLink RX12 90 "EclipsesKeptModel" "gain" "[J", Cond.methodLink RX12 207 yX12_in, Cond.instanceMethod yX12_in, Cond.selects RX12 yX12_in yX12_in, Cond.initialized RX12, Cond.code yX12_in cX12_in 4 (some .boolean), Cond.methodLink RX12 323 yX12_layGains, Cond.instanceMethod yX12_layGains, Cond.selects RX12 yX12_layGains yX12_layGains, Cond.code yX12_layGains cX12_layGains 8 none, Cond.methodLink RX12 307 yX12_gainOf, Cond.instanceMethod yX12_gainOf, Cond.selects RX12 yX12_gainOf yX12_gainOf, Cond.code yX12_gainOf cX12_gainOf 11 (some .long), Cond.fieldLink RX12 19 "EclipsesKeptModel" "year" "I", Cond.fieldLink RX12 94 "EclipsesKeptModel" "chosenSet" "I", Cond.methodLink RX12 299 yX12_ifSpared, Cond.instanceMethod yX12_ifSpared, Cond.selects RX12 yX12_ifSpared yX12_ifSpared, Cond.code yX12_ifSpared cX12_ifSpared 4 (some .long), Cond.methodLink RX12 295 yX12_ways, Cond.instanceMethod yX12_ways]
def wsX12_threshold_r2 : List Cond := [Cond.selects RX12 yX12_ways yX12_ways, Cond.code yX12_ways cX12_ways 5 (some .long), Cond.methodLink RX12 289 yX12_keep, Cond.instanceMethod yX12_keep, Cond.selects RX12 yX12_keep yX12_keep, Cond.code yX12_keep cX12_keep 3 (some .int), Cond.fieldLink RX12 56 "EclipsesKeptModel" "word" "[I", Cond.fieldLink RX12 59 "EclipsesKeptModel" "number" "[I", Cond.methodLink RX12 264 yX12_begin, Cond.instanceMethod yX12_begin, Cond.selects RX12 yX12_begin yX12_begin, Cond.code yX12_begin cX12_begin 1 (some .int), Cond.fieldLink RX12 38 "EclipsesKeptModel" "the" "I", Cond.methodLink RX12 267 yX12_behind, Cond.instanceMethod yX12_behind, Cond.selects RX12 yX12_behind yX12_behind, Cond.code yX12_behind cX12_behind 1 (some .int), Cond.fieldLink RX12 53 "EclipsesKeptModel" "clauses" "[I", Cond.methodLink RX12 303 yX12_ifServed, Cond.instanceMethod yX12_ifServed, Cond.selects RX12 yX12_ifServed yX12_ifServed, Cond.code yX12_ifServed cX12_ifServed 5 (some .long), Cond.methodLink RX12 282 yX12_worthOf, Cond.instanceMethod yX12_worthOf]
def wsX12_threshold_r3 : List Cond := [Cond.selects RX12 yX12_worthOf yX12_worthOf, Cond.code yX12_worthOf cX12_worthOf 7 (some .int), Cond.fieldLink RX12 22 "EclipsesKeptModel" "kind" "[I", Cond.fieldLink RX12 26 "EclipsesKeptModel" "v" "[I", Cond.fieldLink RX12 32 "EclipsesKeptModel" "rows" "[I", Cond.methodLink RX12 278 yX12_base, Cond.instanceMethod yX12_base, Cond.selects RX12 yX12_base yX12_base, Cond.code yX12_base cX12_base 6 (some .int), Cond.methodLink RX12 274 yX12_holds, Cond.instanceMethod yX12_holds, Cond.selects RX12 yX12_holds yX12_holds, Cond.code yX12_holds cX12_holds 10 (some .boolean), Cond.fieldLink RX12 62 "EclipsesKeptModel" "from" "[I", Cond.fieldLink RX12 65 "EclipsesKeptModel" "to" "[I", Cond.fieldLink RX12 68 "EclipsesKeptModel" "sign" "[I", Cond.fieldLink RX12 86 "EclipsesKeptModel" "pile" "[Z", Cond.methodLink RX12 270 yX12_factOf, Cond.instanceMethod yX12_factOf, Cond.selects RX12 yX12_factOf yX12_factOf, Cond.code yX12_factOf cX12_factOf 5 (some .int), Cond.methodLink RX12 203 yX12_has, Cond.instanceMethod yX12_has, Cond.selects RX12 yX12_has yX12_has]
def wsX12_threshold_r4 : List Cond := [Cond.code yX12_has cX12_has 3 (some .boolean)]
def wsX12_threshold : List Cond := .code yX12_threshold cX12_threshold 5 (some .int) :: ((wsX12_threshold_r1 ++ (wsX12_threshold_r2 ++ (wsX12_threshold_r3 ++ wsX12_threshold_r4))) ++ wsX120)
def wsX12_century : List Cond := .code yX12_century cX12_century 2 (some .int) :: ([.fieldLink RX12 100 "EclipsesKeptModel" "comes" "I", .fieldLink RX12 103 "EclipsesKeptModel" "comesNeed" "[I", .methodLink RX12 215 yX12_isNeed, .instanceMethod yX12_isNeed, .selects RX12 yX12_isNeed yX12_isNeed, .initialized RX12, .code yX12_isNeed cX12_isNeed 2 (some .boolean), .fieldLink RX12 7 "EclipsesKeptModel" "needs" "I", .methodLink RX12 207 yX12_in, .instanceMethod yX12_in, .selects RX12 yX12_in yX12_in, .code yX12_in cX12_in 4 (some .boolean)] ++ wsX120)
def wsX12_gainBy_r1 : List Cond := [Cond.fieldLink RX12 13 "EclipsesKeptModel" "dark" "I", Cond.fieldLink RX12 100 "EclipsesKeptModel" "comes" "I", Cond.fieldLink RX12 103 "EclipsesKeptModel" "comesNeed" "[I", Cond.fieldLink RX12 19 "EclipsesKeptModel" "year" "I", Cond.methodLink RX12 203 yX12_has, Cond.instanceMethod yX12_has, Cond.selects RX12 yX12_has yX12_has, Cond.initialized RX12, Cond.code yX12_has cX12_has 3 (some .boolean), Cond.methodLink RX12 282 yX12_worthOf, Cond.instanceMethod yX12_worthOf, Cond.selects RX12 yX12_worthOf yX12_worthOf, Cond.code yX12_worthOf cX12_worthOf 7 (some .int), Cond.fieldLink RX12 22 "EclipsesKeptModel" "kind" "[I", Cond.fieldLink RX12 26 "EclipsesKeptModel" "v" "[I", Cond.fieldLink RX12 32 "EclipsesKeptModel" "rows" "[I", Cond.methodLink RX12 278 yX12_base, Cond.instanceMethod yX12_base, Cond.selects RX12 yX12_base yX12_base, Cond.code yX12_base cX12_base 6 (some .int), Cond.fieldLink RX12 56 "EclipsesKeptModel" "word" "[I", Cond.fieldLink RX12 59 "EclipsesKeptModel" "number" "[I", Cond.methodLink RX12 264 yX12_begin, Cond.instanceMethod yX12_begin]
def wsX12_gainBy_r2 : List Cond := [Cond.selects RX12 yX12_begin yX12_begin, Cond.code yX12_begin cX12_begin 1 (some .int), Cond.fieldLink RX12 38 "EclipsesKeptModel" "the" "I", Cond.methodLink RX12 267 yX12_behind, Cond.instanceMethod yX12_behind, Cond.selects RX12 yX12_behind yX12_behind, Cond.code yX12_behind cX12_behind 1 (some .int), Cond.fieldLink RX12 53 "EclipsesKeptModel" "clauses" "[I", Cond.methodLink RX12 274 yX12_holds, Cond.instanceMethod yX12_holds, Cond.selects RX12 yX12_holds yX12_holds, Cond.code yX12_holds cX12_holds 10 (some .boolean), Cond.fieldLink RX12 62 "EclipsesKeptModel" "from" "[I", Cond.fieldLink RX12 65 "EclipsesKeptModel" "to" "[I", Cond.fieldLink RX12 68 "EclipsesKeptModel" "sign" "[I", Cond.fieldLink RX12 86 "EclipsesKeptModel" "pile" "[Z", Cond.methodLink RX12 270 yX12_factOf, Cond.instanceMethod yX12_factOf, Cond.selects RX12 yX12_factOf yX12_factOf, Cond.code yX12_factOf cX12_factOf 5 (some .int), Cond.methodLink RX12 289 yX12_keep, Cond.instanceMethod yX12_keep, Cond.selects RX12 yX12_keep yX12_keep, Cond.code yX12_keep cX12_keep 3 (some .int)]
def wsX12_gainBy : List Cond := .code yX12_gainBy cX12_gainBy 5 (some .int) :: ((wsX12_gainBy_r1 ++ wsX12_gainBy_r2) ++ wsX120)
def wsX12_bestSet_r1 : List Cond := [Cond.fieldLink RX12 100 "EclipsesKeptModel" "comes" "I", Cond.fieldLink RX12 13 "EclipsesKeptModel" "dark" "I", Cond.methodLink RX12 331 yX12_bits, Cond.instanceMethod yX12_bits, Cond.selects RX12 yX12_bits yX12_bits, Cond.initialized RX12, Cond.code yX12_bits cX12_bits 4 (some .int), Cond.methodLink RX12 203 yX12_has, Cond.instanceMethod yX12_has, Cond.selects RX12 yX12_has yX12_has, Cond.code yX12_has cX12_has 3 (some .boolean), Cond.methodLink RX12 334 yX12_gainBy, Cond.instanceMethod yX12_gainBy, Cond.selects RX12 yX12_gainBy yX12_gainBy, Cond.code yX12_gainBy cX12_gainBy 5 (some .int), Cond.fieldLink RX12 103 "EclipsesKeptModel" "comesNeed" "[I", Cond.fieldLink RX12 19 "EclipsesKeptModel" "year" "I", Cond.methodLink RX12 282 yX12_worthOf, Cond.instanceMethod yX12_worthOf, Cond.selects RX12 yX12_worthOf yX12_worthOf, Cond.code yX12_worthOf cX12_worthOf 7 (some .int), Cond.fieldLink RX12 22 "EclipsesKeptModel" "kind" "[I", Cond.fieldLink RX12 26 "EclipsesKeptModel" "v" "[I", Cond.fieldLink RX12 32 "EclipsesKeptModel" "rows" "[I"]
def wsX12_bestSet_r2 : List Cond := [Cond.methodLink RX12 278 yX12_base, Cond.instanceMethod yX12_base, Cond.selects RX12 yX12_base yX12_base, Cond.code yX12_base cX12_base 6 (some .int), Cond.fieldLink RX12 56 "EclipsesKeptModel" "word" "[I", Cond.fieldLink RX12 59 "EclipsesKeptModel" "number" "[I", Cond.methodLink RX12 264 yX12_begin, Cond.instanceMethod yX12_begin, Cond.selects RX12 yX12_begin yX12_begin, Cond.code yX12_begin cX12_begin 1 (some .int), Cond.fieldLink RX12 38 "EclipsesKeptModel" "the" "I", Cond.methodLink RX12 267 yX12_behind, Cond.instanceMethod yX12_behind, Cond.selects RX12 yX12_behind yX12_behind, Cond.code yX12_behind cX12_behind 1 (some .int), Cond.fieldLink RX12 53 "EclipsesKeptModel" "clauses" "[I", Cond.methodLink RX12 274 yX12_holds, Cond.instanceMethod yX12_holds, Cond.selects RX12 yX12_holds yX12_holds, Cond.code yX12_holds cX12_holds 10 (some .boolean), Cond.fieldLink RX12 62 "EclipsesKeptModel" "from" "[I", Cond.fieldLink RX12 65 "EclipsesKeptModel" "to" "[I", Cond.fieldLink RX12 68 "EclipsesKeptModel" "sign" "[I", Cond.fieldLink RX12 86 "EclipsesKeptModel" "pile" "[Z"]
def wsX12_bestSet_r3 : List Cond := [Cond.methodLink RX12 270 yX12_factOf, Cond.instanceMethod yX12_factOf, Cond.selects RX12 yX12_factOf yX12_factOf, Cond.code yX12_factOf cX12_factOf 5 (some .int), Cond.methodLink RX12 289 yX12_keep, Cond.instanceMethod yX12_keep, Cond.selects RX12 yX12_keep yX12_keep, Cond.code yX12_keep cX12_keep 3 (some .int)]
def wsX12_bestSet : List Cond := .code yX12_bestSet cX12_bestSet 3 (some .int) :: ((wsX12_bestSet_r1 ++ (wsX12_bestSet_r2 ++ wsX12_bestSet_r3)) ++ wsX120)
def wsX12_plan_r1 : List Cond := [Cond.constant RX12 287 (-10000001), Cond.methodLink RX12 207 yX12_in, Cond.instanceMethod yX12_in, Cond.selects RX12 yX12_in yX12_in, Cond.initialized RX12, Cond.code yX12_in cX12_in 4 (some .boolean), Cond.methodLink RX12 337 yX12_bestSet, Cond.instanceMethod yX12_bestSet, Cond.selects RX12 yX12_bestSet yX12_bestSet, Cond.code yX12_bestSet cX12_bestSet 3 (some .int), Cond.fieldLink RX12 100 "EclipsesKeptModel" "comes" "I", Cond.fieldLink RX12 13 "EclipsesKeptModel" "dark" "I", Cond.methodLink RX12 331 yX12_bits, Cond.instanceMethod yX12_bits, Cond.selects RX12 yX12_bits yX12_bits, Cond.code yX12_bits cX12_bits 4 (some .int), Cond.methodLink RX12 203 yX12_has, Cond.instanceMethod yX12_has, Cond.selects RX12 yX12_has yX12_has, Cond.code yX12_has cX12_has 3 (some .boolean), Cond.methodLink RX12 334 yX12_gainBy, Cond.instanceMethod yX12_gainBy, Cond.selects RX12 yX12_gainBy yX12_gainBy, Cond.code yX12_gainBy cX12_gainBy 5 (some .int)]
def wsX12_plan_r2 : List Cond := [Cond.fieldLink RX12 103 "EclipsesKeptModel" "comesNeed" "[I", Cond.fieldLink RX12 19 "EclipsesKeptModel" "year" "I", Cond.methodLink RX12 282 yX12_worthOf, Cond.instanceMethod yX12_worthOf, Cond.selects RX12 yX12_worthOf yX12_worthOf, Cond.code yX12_worthOf cX12_worthOf 7 (some .int), Cond.fieldLink RX12 22 "EclipsesKeptModel" "kind" "[I", Cond.fieldLink RX12 26 "EclipsesKeptModel" "v" "[I", Cond.fieldLink RX12 32 "EclipsesKeptModel" "rows" "[I", Cond.methodLink RX12 278 yX12_base, Cond.instanceMethod yX12_base, Cond.selects RX12 yX12_base yX12_base, Cond.code yX12_base cX12_base 6 (some .int), Cond.fieldLink RX12 56 "EclipsesKeptModel" "word" "[I", Cond.fieldLink RX12 59 "EclipsesKeptModel" "number" "[I", Cond.methodLink RX12 264 yX12_begin, Cond.instanceMethod yX12_begin, Cond.selects RX12 yX12_begin yX12_begin, Cond.code yX12_begin cX12_begin 1 (some .int), Cond.fieldLink RX12 38 "EclipsesKeptModel" "the" "I", Cond.methodLink RX12 267 yX12_behind, Cond.instanceMethod yX12_behind, Cond.selects RX12 yX12_behind yX12_behind, Cond.code yX12_behind cX12_behind 1 (some .int)]
def wsX12_plan_r3 : List Cond := [Cond.fieldLink RX12 53 "EclipsesKeptModel" "clauses" "[I", Cond.methodLink RX12 274 yX12_holds, Cond.instanceMethod yX12_holds, Cond.selects RX12 yX12_holds yX12_holds, Cond.code yX12_holds cX12_holds 10 (some .boolean), Cond.fieldLink RX12 62 "EclipsesKeptModel" "from" "[I", Cond.fieldLink RX12 65 "EclipsesKeptModel" "to" "[I", Cond.fieldLink RX12 68 "EclipsesKeptModel" "sign" "[I", Cond.fieldLink RX12 86 "EclipsesKeptModel" "pile" "[Z", Cond.methodLink RX12 270 yX12_factOf, Cond.instanceMethod yX12_factOf, Cond.selects RX12 yX12_factOf yX12_factOf, Cond.code yX12_factOf cX12_factOf 5 (some .int), Cond.methodLink RX12 289 yX12_keep, Cond.instanceMethod yX12_keep, Cond.selects RX12 yX12_keep yX12_keep, Cond.code yX12_keep cX12_keep 3 (some .int)]
def wsX12_plan : List Cond := .code yX12_plan cX12_plan 2 (some .int) :: ((wsX12_plan_r1 ++ (wsX12_plan_r2 ++ wsX12_plan_r3)) ++ wsX120)
def wsX12_ends_r1 : List Cond := [Cond.constant RX12 287 (-10000001), Cond.methodLink RX12 207 yX12_in, Cond.instanceMethod yX12_in, Cond.selects RX12 yX12_in yX12_in, Cond.initialized RX12, Cond.code yX12_in cX12_in 4 (some .boolean), Cond.methodLink RX12 334 yX12_gainBy, Cond.instanceMethod yX12_gainBy, Cond.selects RX12 yX12_gainBy yX12_gainBy, Cond.code yX12_gainBy cX12_gainBy 5 (some .int), Cond.fieldLink RX12 13 "EclipsesKeptModel" "dark" "I", Cond.fieldLink RX12 100 "EclipsesKeptModel" "comes" "I", Cond.fieldLink RX12 103 "EclipsesKeptModel" "comesNeed" "[I", Cond.fieldLink RX12 19 "EclipsesKeptModel" "year" "I", Cond.methodLink RX12 203 yX12_has, Cond.instanceMethod yX12_has, Cond.selects RX12 yX12_has yX12_has, Cond.code yX12_has cX12_has 3 (some .boolean), Cond.methodLink RX12 282 yX12_worthOf, Cond.instanceMethod yX12_worthOf, Cond.selects RX12 yX12_worthOf yX12_worthOf, Cond.code yX12_worthOf cX12_worthOf 7 (some .int), Cond.fieldLink RX12 22 "EclipsesKeptModel" "kind" "[I", Cond.fieldLink RX12 26 "EclipsesKeptModel" "v" "[I"]
def wsX12_ends_r2 : List Cond := [Cond.fieldLink RX12 32 "EclipsesKeptModel" "rows" "[I", Cond.methodLink RX12 278 yX12_base, Cond.instanceMethod yX12_base, Cond.selects RX12 yX12_base yX12_base, Cond.code yX12_base cX12_base 6 (some .int), Cond.fieldLink RX12 56 "EclipsesKeptModel" "word" "[I", Cond.fieldLink RX12 59 "EclipsesKeptModel" "number" "[I", Cond.methodLink RX12 264 yX12_begin, Cond.instanceMethod yX12_begin, Cond.selects RX12 yX12_begin yX12_begin, Cond.code yX12_begin cX12_begin 1 (some .int), Cond.fieldLink RX12 38 "EclipsesKeptModel" "the" "I", Cond.methodLink RX12 267 yX12_behind, Cond.instanceMethod yX12_behind, Cond.selects RX12 yX12_behind yX12_behind, Cond.code yX12_behind cX12_behind 1 (some .int), Cond.fieldLink RX12 53 "EclipsesKeptModel" "clauses" "[I", Cond.methodLink RX12 274 yX12_holds, Cond.instanceMethod yX12_holds, Cond.selects RX12 yX12_holds yX12_holds, Cond.code yX12_holds cX12_holds 10 (some .boolean), Cond.fieldLink RX12 62 "EclipsesKeptModel" "from" "[I", Cond.fieldLink RX12 65 "EclipsesKeptModel" "to" "[I", Cond.fieldLink RX12 68 "EclipsesKeptModel" "sign" "[I"]
def wsX12_ends_r3 : List Cond := [Cond.fieldLink RX12 86 "EclipsesKeptModel" "pile" "[Z", Cond.methodLink RX12 270 yX12_factOf, Cond.instanceMethod yX12_factOf, Cond.selects RX12 yX12_factOf yX12_factOf, Cond.code yX12_factOf cX12_factOf 5 (some .int), Cond.methodLink RX12 289 yX12_keep, Cond.instanceMethod yX12_keep, Cond.selects RX12 yX12_keep yX12_keep, Cond.code yX12_keep cX12_keep 3 (some .int)]
def wsX12_ends : List Cond := .code yX12_ends cX12_ends 2 (some .int) :: ((wsX12_ends_r1 ++ (wsX12_ends_r2 ++ wsX12_ends_r3)) ++ wsX120)
def wsX12_see : List Cond := .code yX12_see cX12_see 4 (some .int) :: ([.fieldLink RX12 106 "EclipsesKeptModel" "seen" "I", .fieldLink RX12 112 "EclipsesKeptModel" "seenNeed" "[I", .fieldLink RX12 115 "EclipsesKeptModel" "seenWorth" "[I", .fieldLink RX12 118 "EclipsesKeptModel" "seenWhen" "[I", .methodLink RX12 215 yX12_isNeed, .instanceMethod yX12_isNeed, .selects RX12 yX12_isNeed yX12_isNeed, .initialized RX12, .code yX12_isNeed cX12_isNeed 2 (some .boolean), .fieldLink RX12 7 "EclipsesKeptModel" "needs" "I", .methodLink RX12 207 yX12_in, .instanceMethod yX12_in, .selects RX12 yX12_in yX12_in, .code yX12_in cX12_in 4 (some .boolean)] ++ wsX120)
def wsX12_isSeen_r1 : List Cond := [Cond.fieldLink RX12 106 "EclipsesKeptModel" "seen" "I", Cond.fieldLink RX12 112 "EclipsesKeptModel" "seenNeed" "[I", Cond.fieldLink RX12 19 "EclipsesKeptModel" "year" "I", Cond.fieldLink RX12 118 "EclipsesKeptModel" "seenWhen" "[I", Cond.fieldLink RX12 115 "EclipsesKeptModel" "seenWorth" "[I", Cond.methodLink RX12 282 yX12_worthOf, Cond.instanceMethod yX12_worthOf, Cond.selects RX12 yX12_worthOf yX12_worthOf, Cond.initialized RX12, Cond.code yX12_worthOf cX12_worthOf 7 (some .int), Cond.fieldLink RX12 22 "EclipsesKeptModel" "kind" "[I", Cond.fieldLink RX12 26 "EclipsesKeptModel" "v" "[I", Cond.fieldLink RX12 32 "EclipsesKeptModel" "rows" "[I", Cond.methodLink RX12 278 yX12_base, Cond.instanceMethod yX12_base, Cond.selects RX12 yX12_base yX12_base, Cond.code yX12_base cX12_base 6 (some .int), Cond.fieldLink RX12 56 "EclipsesKeptModel" "word" "[I", Cond.fieldLink RX12 59 "EclipsesKeptModel" "number" "[I", Cond.methodLink RX12 264 yX12_begin, Cond.instanceMethod yX12_begin, Cond.selects RX12 yX12_begin yX12_begin, Cond.code yX12_begin cX12_begin 1 (some .int), Cond.fieldLink RX12 38 "EclipsesKeptModel" "the" "I"]
def wsX12_isSeen_r2 : List Cond := [Cond.methodLink RX12 267 yX12_behind, Cond.instanceMethod yX12_behind, Cond.selects RX12 yX12_behind yX12_behind, Cond.code yX12_behind cX12_behind 1 (some .int), Cond.fieldLink RX12 53 "EclipsesKeptModel" "clauses" "[I", Cond.methodLink RX12 274 yX12_holds, Cond.instanceMethod yX12_holds, Cond.selects RX12 yX12_holds yX12_holds, Cond.code yX12_holds cX12_holds 10 (some .boolean), Cond.fieldLink RX12 62 "EclipsesKeptModel" "from" "[I", Cond.fieldLink RX12 65 "EclipsesKeptModel" "to" "[I", Cond.fieldLink RX12 68 "EclipsesKeptModel" "sign" "[I", Cond.fieldLink RX12 86 "EclipsesKeptModel" "pile" "[Z", Cond.methodLink RX12 270 yX12_factOf, Cond.instanceMethod yX12_factOf, Cond.selects RX12 yX12_factOf yX12_factOf, Cond.code yX12_factOf cX12_factOf 5 (some .int)]
def wsX12_isSeen : List Cond := .code yX12_isSeen cX12_isSeen 3 (some .boolean) :: ((wsX12_isSeen_r1 ++ wsX12_isSeen_r2) ++ wsX120)
def wsX12_can_r1 : List Cond := [Cond.fieldLink RX12 26 "EclipsesKeptModel" "v" "[I", Cond.fieldLink RX12 13 "EclipsesKeptModel" "dark" "I", Cond.methodLink RX12 215 yX12_isNeed, Cond.instanceMethod yX12_isNeed, Cond.selects RX12 yX12_isNeed yX12_isNeed, Cond.initialized RX12, Cond.code yX12_isNeed cX12_isNeed 2 (some .boolean), Cond.fieldLink RX12 7 "EclipsesKeptModel" "needs" "I", Cond.methodLink RX12 207 yX12_in, Cond.instanceMethod yX12_in, Cond.selects RX12 yX12_in yX12_in, Cond.code yX12_in cX12_in 4 (some .boolean), Cond.methodLink RX12 340 yX12_isSeen, Cond.instanceMethod yX12_isSeen, Cond.selects RX12 yX12_isSeen yX12_isSeen, Cond.code yX12_isSeen cX12_isSeen 3 (some .boolean), Cond.fieldLink RX12 106 "EclipsesKeptModel" "seen" "I", Cond.fieldLink RX12 112 "EclipsesKeptModel" "seenNeed" "[I", Cond.fieldLink RX12 19 "EclipsesKeptModel" "year" "I", Cond.fieldLink RX12 118 "EclipsesKeptModel" "seenWhen" "[I", Cond.fieldLink RX12 115 "EclipsesKeptModel" "seenWorth" "[I", Cond.methodLink RX12 282 yX12_worthOf, Cond.instanceMethod yX12_worthOf, Cond.selects RX12 yX12_worthOf yX12_worthOf]
def wsX12_can_r2 : List Cond := [Cond.code yX12_worthOf cX12_worthOf 7 (some .int), Cond.fieldLink RX12 22 "EclipsesKeptModel" "kind" "[I", Cond.fieldLink RX12 32 "EclipsesKeptModel" "rows" "[I", Cond.methodLink RX12 278 yX12_base, Cond.instanceMethod yX12_base, Cond.selects RX12 yX12_base yX12_base, Cond.code yX12_base cX12_base 6 (some .int), Cond.fieldLink RX12 56 "EclipsesKeptModel" "word" "[I", Cond.fieldLink RX12 59 "EclipsesKeptModel" "number" "[I", Cond.methodLink RX12 264 yX12_begin, Cond.instanceMethod yX12_begin, Cond.selects RX12 yX12_begin yX12_begin, Cond.code yX12_begin cX12_begin 1 (some .int), Cond.fieldLink RX12 38 "EclipsesKeptModel" "the" "I", Cond.methodLink RX12 267 yX12_behind, Cond.instanceMethod yX12_behind, Cond.selects RX12 yX12_behind yX12_behind, Cond.code yX12_behind cX12_behind 1 (some .int), Cond.fieldLink RX12 53 "EclipsesKeptModel" "clauses" "[I", Cond.methodLink RX12 274 yX12_holds, Cond.instanceMethod yX12_holds, Cond.selects RX12 yX12_holds yX12_holds, Cond.code yX12_holds cX12_holds 10 (some .boolean), Cond.fieldLink RX12 62 "EclipsesKeptModel" "from" "[I"]
def wsX12_can_r3 : List Cond := [Cond.fieldLink RX12 65 "EclipsesKeptModel" "to" "[I", Cond.fieldLink RX12 68 "EclipsesKeptModel" "sign" "[I", Cond.fieldLink RX12 86 "EclipsesKeptModel" "pile" "[Z", Cond.methodLink RX12 270 yX12_factOf, Cond.instanceMethod yX12_factOf, Cond.selects RX12 yX12_factOf yX12_factOf, Cond.code yX12_factOf cX12_factOf 5 (some .int)]
def wsX12_can : List Cond := .code yX12_can cX12_can 7 (some .int) :: ((wsX12_can_r1 ++ (wsX12_can_r2 ++ wsX12_can_r3)) ++ wsX120)
def wsX12_darked_r1 : List Cond := [Cond.methodLink RX12 207 yX12_in, Cond.instanceMethod yX12_in, Cond.selects RX12 yX12_in yX12_in, Cond.initialized RX12, Cond.code yX12_in cX12_in 4 (some .boolean), Cond.methodLink RX12 340 yX12_isSeen, Cond.instanceMethod yX12_isSeen, Cond.selects RX12 yX12_isSeen yX12_isSeen, Cond.code yX12_isSeen cX12_isSeen 3 (some .boolean), Cond.fieldLink RX12 106 "EclipsesKeptModel" "seen" "I", Cond.fieldLink RX12 112 "EclipsesKeptModel" "seenNeed" "[I", Cond.fieldLink RX12 19 "EclipsesKeptModel" "year" "I", Cond.fieldLink RX12 118 "EclipsesKeptModel" "seenWhen" "[I", Cond.fieldLink RX12 115 "EclipsesKeptModel" "seenWorth" "[I", Cond.methodLink RX12 282 yX12_worthOf, Cond.instanceMethod yX12_worthOf, Cond.selects RX12 yX12_worthOf yX12_worthOf, Cond.code yX12_worthOf cX12_worthOf 7 (some .int), Cond.fieldLink RX12 22 "EclipsesKeptModel" "kind" "[I", Cond.fieldLink RX12 26 "EclipsesKeptModel" "v" "[I", Cond.fieldLink RX12 32 "EclipsesKeptModel" "rows" "[I", Cond.methodLink RX12 278 yX12_base, Cond.instanceMethod yX12_base, Cond.selects RX12 yX12_base yX12_base]
def wsX12_darked_r2 : List Cond := [Cond.code yX12_base cX12_base 6 (some .int), Cond.fieldLink RX12 56 "EclipsesKeptModel" "word" "[I", Cond.fieldLink RX12 59 "EclipsesKeptModel" "number" "[I", Cond.methodLink RX12 264 yX12_begin, Cond.instanceMethod yX12_begin, Cond.selects RX12 yX12_begin yX12_begin, Cond.code yX12_begin cX12_begin 1 (some .int), Cond.fieldLink RX12 38 "EclipsesKeptModel" "the" "I", Cond.methodLink RX12 267 yX12_behind, Cond.instanceMethod yX12_behind, Cond.selects RX12 yX12_behind yX12_behind, Cond.code yX12_behind cX12_behind 1 (some .int), Cond.fieldLink RX12 53 "EclipsesKeptModel" "clauses" "[I", Cond.methodLink RX12 274 yX12_holds, Cond.instanceMethod yX12_holds, Cond.selects RX12 yX12_holds yX12_holds, Cond.code yX12_holds cX12_holds 10 (some .boolean), Cond.fieldLink RX12 62 "EclipsesKeptModel" "from" "[I", Cond.fieldLink RX12 65 "EclipsesKeptModel" "to" "[I", Cond.fieldLink RX12 68 "EclipsesKeptModel" "sign" "[I", Cond.fieldLink RX12 86 "EclipsesKeptModel" "pile" "[Z", Cond.methodLink RX12 270 yX12_factOf, Cond.instanceMethod yX12_factOf, Cond.selects RX12 yX12_factOf yX12_factOf]
def wsX12_darked_r3 : List Cond := [Cond.code yX12_factOf cX12_factOf 5 (some .int)]
def wsX12_darked : List Cond := .code yX12_darked cX12_darked 5 (some .int) :: ((wsX12_darked_r1 ++ (wsX12_darked_r2 ++ wsX12_darked_r3)) ++ wsX120)
def wsX12_book : List Cond := .code yX12_book cX12_book 3 (some .int) :: ([.fieldLink RX12 109 "EclipsesKeptModel" "books" "I", .fieldLink RX12 121 "EclipsesKeptModel" "bookNeed" "[I", .fieldLink RX12 124 "EclipsesKeptModel" "bookServed" "[I", .methodLink RX12 215 yX12_isNeed, .instanceMethod yX12_isNeed, .selects RX12 yX12_isNeed yX12_isNeed, .initialized RX12, .code yX12_isNeed cX12_isNeed 2 (some .boolean), .fieldLink RX12 7 "EclipsesKeptModel" "needs" "I", .methodLink RX12 207 yX12_in, .instanceMethod yX12_in, .selects RX12 yX12_in yX12_in, .code yX12_in cX12_in 4 (some .boolean)] ++ wsX120)
def wsX12_looked : List Cond := .code yX12_looked cX12_looked 2 (some .int) :: ([.fieldLink RX12 109 "EclipsesKeptModel" "books" "I", .fieldLink RX12 29 "EclipsesKeptModel" "served" "[I", .fieldLink RX12 121 "EclipsesKeptModel" "bookNeed" "[I", .fieldLink RX12 124 "EclipsesKeptModel" "bookServed" "[I"] ++ wsX120)
def wsX12_isTape : List Cond := .code yX12_isTape cX12_isTape 2 (some .boolean) :: ([.methodLink RX12 207 yX12_in, .instanceMethod yX12_in, .selects RX12 yX12_in yX12_in, .initialized RX12, .code yX12_in cX12_in 4 (some .boolean)])
def wsX12_judge_r1 : List Cond := [Cond.fieldLink RX12 191 "EclipsesKeptModel" "sort" "[I", Cond.fieldLink RX12 7 "EclipsesKeptModel" "needs" "I", Cond.fieldLink RX12 194 "EclipsesKeptModel" "length" "[I", Cond.fieldLink RX12 197 "EclipsesKeptModel" "item" "[J", Cond.fieldLink RX12 19 "EclipsesKeptModel" "year" "I", Cond.fieldLink RX12 13 "EclipsesKeptModel" "dark" "I", Cond.methodLink RX12 343 yX12_isTape, Cond.instanceMethod yX12_isTape, Cond.selects RX12 yX12_isTape yX12_isTape, Cond.initialized RX12, Cond.code yX12_isTape cX12_isTape 2 (some .boolean), Cond.methodLink RX12 207 yX12_in, Cond.instanceMethod yX12_in, Cond.selects RX12 yX12_in yX12_in, Cond.code yX12_in cX12_in 4 (some .boolean), Cond.methodLink RX12 282 yX12_worthOf, Cond.instanceMethod yX12_worthOf, Cond.selects RX12 yX12_worthOf yX12_worthOf, Cond.code yX12_worthOf cX12_worthOf 7 (some .int), Cond.fieldLink RX12 22 "EclipsesKeptModel" "kind" "[I", Cond.fieldLink RX12 26 "EclipsesKeptModel" "v" "[I", Cond.fieldLink RX12 32 "EclipsesKeptModel" "rows" "[I", Cond.methodLink RX12 278 yX12_base, Cond.instanceMethod yX12_base]
def wsX12_judge_r2 : List Cond := [Cond.selects RX12 yX12_base yX12_base, Cond.code yX12_base cX12_base 6 (some .int), Cond.fieldLink RX12 56 "EclipsesKeptModel" "word" "[I", Cond.fieldLink RX12 59 "EclipsesKeptModel" "number" "[I", Cond.methodLink RX12 264 yX12_begin, Cond.instanceMethod yX12_begin, Cond.selects RX12 yX12_begin yX12_begin, Cond.code yX12_begin cX12_begin 1 (some .int), Cond.fieldLink RX12 38 "EclipsesKeptModel" "the" "I", Cond.methodLink RX12 267 yX12_behind, Cond.instanceMethod yX12_behind, Cond.selects RX12 yX12_behind yX12_behind, Cond.code yX12_behind cX12_behind 1 (some .int), Cond.fieldLink RX12 53 "EclipsesKeptModel" "clauses" "[I", Cond.methodLink RX12 274 yX12_holds, Cond.instanceMethod yX12_holds, Cond.selects RX12 yX12_holds yX12_holds, Cond.code yX12_holds cX12_holds 10 (some .boolean), Cond.fieldLink RX12 62 "EclipsesKeptModel" "from" "[I", Cond.fieldLink RX12 65 "EclipsesKeptModel" "to" "[I", Cond.fieldLink RX12 68 "EclipsesKeptModel" "sign" "[I", Cond.fieldLink RX12 86 "EclipsesKeptModel" "pile" "[Z", Cond.methodLink RX12 270 yX12_factOf, Cond.instanceMethod yX12_factOf]
def wsX12_judge_r3 : List Cond := [Cond.selects RX12 yX12_factOf yX12_factOf, Cond.code yX12_factOf cX12_factOf 5 (some .int)]
def wsX12_judge : List Cond := .code yX12_judge cX12_judge 4 (some .int) :: ((wsX12_judge_r1 ++ (wsX12_judge_r2 ++ wsX12_judge_r3)) ++ wsX120)
def wsX12_image_r1 : List Cond := [Cond.fieldLink RX12 127 "EclipsesKeptModel" "hasImage" "Z", Cond.fieldLink RX12 38 "EclipsesKeptModel" "the" "I", Cond.fieldLink RX12 131 "EclipsesKeptModel" "imageThe" "I", Cond.fieldLink RX12 7 "EclipsesKeptModel" "needs" "I", Cond.fieldLink RX12 134 "EclipsesKeptModel" "imageNeeds" "I", Cond.fieldLink RX12 13 "EclipsesKeptModel" "dark" "I", Cond.fieldLink RX12 137 "EclipsesKeptModel" "imageDark" "I", Cond.fieldLink RX12 16 "EclipsesKeptModel" "glory" "I", Cond.fieldLink RX12 140 "EclipsesKeptModel" "imageGlory" "I", Cond.fieldLink RX12 19 "EclipsesKeptModel" "year" "I", Cond.fieldLink RX12 143 "EclipsesKeptModel" "imageYear" "I", Cond.fieldLink RX12 100 "EclipsesKeptModel" "comes" "I", Cond.fieldLink RX12 146 "EclipsesKeptModel" "imageComes" "I", Cond.fieldLink RX12 106 "EclipsesKeptModel" "seen" "I", Cond.fieldLink RX12 149 "EclipsesKeptModel" "imageSeen" "I", Cond.fieldLink RX12 109 "EclipsesKeptModel" "books" "I", Cond.fieldLink RX12 152 "EclipsesKeptModel" "imageBooks" "I", Cond.fieldLink RX12 155 "EclipsesKeptModel" "imageKind" "[I", Cond.fieldLink RX12 22 "EclipsesKeptModel" "kind" "[I", Cond.fieldLink RX12 158 "EclipsesKeptModel" "imageV" "[I", Cond.fieldLink RX12 26 "EclipsesKeptModel" "v" "[I", Cond.fieldLink RX12 161 "EclipsesKeptModel" "imageServed" "[I", Cond.fieldLink RX12 29 "EclipsesKeptModel" "served" "[I", Cond.fieldLink RX12 164 "EclipsesKeptModel" "imageRows" "[I"]
def wsX12_image_r2 : List Cond := [Cond.fieldLink RX12 32 "EclipsesKeptModel" "rows" "[I", Cond.fieldLink RX12 170 "EclipsesKeptModel" "imageSeenNeed" "[I", Cond.fieldLink RX12 112 "EclipsesKeptModel" "seenNeed" "[I", Cond.fieldLink RX12 173 "EclipsesKeptModel" "imageWorth" "[I", Cond.fieldLink RX12 115 "EclipsesKeptModel" "seenWorth" "[I", Cond.fieldLink RX12 176 "EclipsesKeptModel" "imageWhen" "[I", Cond.fieldLink RX12 118 "EclipsesKeptModel" "seenWhen" "[I", Cond.fieldLink RX12 167 "EclipsesKeptModel" "imageComesNeed" "[I", Cond.fieldLink RX12 103 "EclipsesKeptModel" "comesNeed" "[I", Cond.fieldLink RX12 179 "EclipsesKeptModel" "imageBookNeed" "[I", Cond.fieldLink RX12 121 "EclipsesKeptModel" "bookNeed" "[I", Cond.fieldLink RX12 182 "EclipsesKeptModel" "imageBookServed" "[I", Cond.fieldLink RX12 124 "EclipsesKeptModel" "bookServed" "[I"]
def wsX12_image : List Cond := .code yX12_image cX12_image 2 (some .int) :: ((wsX12_image_r1 ++ wsX12_image_r2) ++ wsX120)
def wsX12_undo_r1 : List Cond := [Cond.fieldLink RX12 127 "EclipsesKeptModel" "hasImage" "Z", Cond.fieldLink RX12 131 "EclipsesKeptModel" "imageThe" "I", Cond.fieldLink RX12 38 "EclipsesKeptModel" "the" "I", Cond.fieldLink RX12 134 "EclipsesKeptModel" "imageNeeds" "I", Cond.fieldLink RX12 7 "EclipsesKeptModel" "needs" "I", Cond.fieldLink RX12 137 "EclipsesKeptModel" "imageDark" "I", Cond.fieldLink RX12 13 "EclipsesKeptModel" "dark" "I", Cond.fieldLink RX12 140 "EclipsesKeptModel" "imageGlory" "I", Cond.fieldLink RX12 16 "EclipsesKeptModel" "glory" "I", Cond.fieldLink RX12 143 "EclipsesKeptModel" "imageYear" "I", Cond.fieldLink RX12 19 "EclipsesKeptModel" "year" "I", Cond.fieldLink RX12 146 "EclipsesKeptModel" "imageComes" "I", Cond.fieldLink RX12 100 "EclipsesKeptModel" "comes" "I", Cond.fieldLink RX12 149 "EclipsesKeptModel" "imageSeen" "I", Cond.fieldLink RX12 106 "EclipsesKeptModel" "seen" "I", Cond.fieldLink RX12 152 "EclipsesKeptModel" "imageBooks" "I", Cond.fieldLink RX12 109 "EclipsesKeptModel" "books" "I", Cond.fieldLink RX12 22 "EclipsesKeptModel" "kind" "[I", Cond.fieldLink RX12 155 "EclipsesKeptModel" "imageKind" "[I", Cond.fieldLink RX12 26 "EclipsesKeptModel" "v" "[I", Cond.fieldLink RX12 158 "EclipsesKeptModel" "imageV" "[I", Cond.fieldLink RX12 29 "EclipsesKeptModel" "served" "[I", Cond.fieldLink RX12 161 "EclipsesKeptModel" "imageServed" "[I", Cond.fieldLink RX12 32 "EclipsesKeptModel" "rows" "[I"]
def wsX12_undo_r2 : List Cond := [Cond.fieldLink RX12 164 "EclipsesKeptModel" "imageRows" "[I", Cond.fieldLink RX12 112 "EclipsesKeptModel" "seenNeed" "[I", Cond.fieldLink RX12 170 "EclipsesKeptModel" "imageSeenNeed" "[I", Cond.fieldLink RX12 115 "EclipsesKeptModel" "seenWorth" "[I", Cond.fieldLink RX12 173 "EclipsesKeptModel" "imageWorth" "[I", Cond.fieldLink RX12 118 "EclipsesKeptModel" "seenWhen" "[I", Cond.fieldLink RX12 176 "EclipsesKeptModel" "imageWhen" "[I", Cond.fieldLink RX12 103 "EclipsesKeptModel" "comesNeed" "[I", Cond.fieldLink RX12 167 "EclipsesKeptModel" "imageComesNeed" "[I", Cond.fieldLink RX12 121 "EclipsesKeptModel" "bookNeed" "[I", Cond.fieldLink RX12 179 "EclipsesKeptModel" "imageBookNeed" "[I", Cond.fieldLink RX12 124 "EclipsesKeptModel" "bookServed" "[I", Cond.fieldLink RX12 182 "EclipsesKeptModel" "imageBookServed" "[I"]
def wsX12_undo : List Cond := .code yX12_undo cX12_undo 2 (some .int) :: ((wsX12_undo_r1 ++ wsX12_undo_r2) ++ wsX120)
def wsX12_body : List Cond := .code yX12_body cX12_body 2 none :: ([.fieldLink RX12 185 "EclipsesKeptModel" "ran" "I", .fieldLink RX12 188 "EclipsesKeptModel" "bodies" "[I"] ++ wsX120)
def wsX12_needDarkens : List Cond := .code yX12_needDarkens cX12_needDarkens 3 (some .int) :: ([.methodLink RX12 346 yX12_body, .instanceMethod yX12_body, .selects RX12 yX12_body yX12_body, .initialized RX12, .code yX12_body cX12_body 2 none, .fieldLink RX12 185 "EclipsesKeptModel" "ran" "I", .fieldLink RX12 188 "EclipsesKeptModel" "bodies" "[I"] ++ wsX120)
def wsX12_darkensAct : List Cond := .code yX12_darkensAct cX12_darkensAct 3 (some .int) :: ([.fieldLink RX12 22 "EclipsesKeptModel" "kind" "[I", .fieldLink RX12 26 "EclipsesKeptModel" "v" "[I", .methodLink RX12 346 yX12_body, .instanceMethod yX12_body, .selects RX12 yX12_body yX12_body, .initialized RX12, .code yX12_body cX12_body 2 none, .fieldLink RX12 185 "EclipsesKeptModel" "ran" "I", .fieldLink RX12 188 "EclipsesKeptModel" "bodies" "[I", .methodLink RX12 349 yX12_needDarkens, .instanceMethod yX12_needDarkens, .selects RX12 yX12_needDarkens yX12_needDarkens, .code yX12_needDarkens cX12_needDarkens 3 (some .int)] ++ wsX120)
def wsX12_needPleads : List Cond := .code yX12_needPleads cX12_needPleads 3 (some .int) :: ([.fieldLink RX12 26 "EclipsesKeptModel" "v" "[I", .methodLink RX12 346 yX12_body, .instanceMethod yX12_body, .selects RX12 yX12_body yX12_body, .initialized RX12, .code yX12_body cX12_body 2 none, .fieldLink RX12 185 "EclipsesKeptModel" "ran" "I", .fieldLink RX12 188 "EclipsesKeptModel" "bodies" "[I", .methodLink RX12 353 yX12_darkensAct, .instanceMethod yX12_darkensAct, .selects RX12 yX12_darkensAct yX12_darkensAct, .code yX12_darkensAct cX12_darkensAct 3 (some .int), .fieldLink RX12 22 "EclipsesKeptModel" "kind" "[I", .methodLink RX12 349 yX12_needDarkens, .instanceMethod yX12_needDarkens, .selects RX12 yX12_needDarkens yX12_needDarkens, .code yX12_needDarkens cX12_needDarkens 3 (some .int)] ++ wsX120)
def wsX12_siegePleads : List Cond := .code yX12_siegePleads cX12_siegePleads 3 (some .int) :: ([.methodLink RX12 346 yX12_body, .instanceMethod yX12_body, .selects RX12 yX12_body yX12_body, .initialized RX12, .code yX12_body cX12_body 2 none, .fieldLink RX12 185 "EclipsesKeptModel" "ran" "I", .fieldLink RX12 188 "EclipsesKeptModel" "bodies" "[I", .methodLink RX12 356 yX12_needPleads, .instanceMethod yX12_needPleads, .selects RX12 yX12_needPleads yX12_needPleads, .code yX12_needPleads cX12_needPleads 3 (some .int), .fieldLink RX12 26 "EclipsesKeptModel" "v" "[I", .methodLink RX12 353 yX12_darkensAct, .instanceMethod yX12_darkensAct, .selects RX12 yX12_darkensAct yX12_darkensAct, .code yX12_darkensAct cX12_darkensAct 3 (some .int), .fieldLink RX12 22 "EclipsesKeptModel" "kind" "[I", .methodLink RX12 349 yX12_needDarkens, .instanceMethod yX12_needDarkens, .selects RX12 yX12_needDarkens yX12_needDarkens, .code yX12_needDarkens cX12_needDarkens 3 (some .int)] ++ wsX120)
def wsX12_pleadsAct_r1 : List Cond := [Cond.fieldLink RX12 22 "EclipsesKeptModel" "kind" "[I", Cond.methodLink RX12 359 yX12_siegePleads, Cond.instanceMethod yX12_siegePleads, Cond.selects RX12 yX12_siegePleads yX12_siegePleads, Cond.initialized RX12, Cond.code yX12_siegePleads cX12_siegePleads 3 (some .int), Cond.methodLink RX12 346 yX12_body, Cond.instanceMethod yX12_body, Cond.selects RX12 yX12_body yX12_body, Cond.code yX12_body cX12_body 2 none, Cond.fieldLink RX12 185 "EclipsesKeptModel" "ran" "I", Cond.fieldLink RX12 188 "EclipsesKeptModel" "bodies" "[I", Cond.methodLink RX12 356 yX12_needPleads, Cond.instanceMethod yX12_needPleads, Cond.selects RX12 yX12_needPleads yX12_needPleads, Cond.code yX12_needPleads cX12_needPleads 3 (some .int), Cond.fieldLink RX12 26 "EclipsesKeptModel" "v" "[I", Cond.methodLink RX12 353 yX12_darkensAct, Cond.instanceMethod yX12_darkensAct, Cond.selects RX12 yX12_darkensAct yX12_darkensAct, Cond.code yX12_darkensAct cX12_darkensAct 3 (some .int), Cond.methodLink RX12 349 yX12_needDarkens, Cond.instanceMethod yX12_needDarkens, Cond.selects RX12 yX12_needDarkens yX12_needDarkens]
def wsX12_pleadsAct_r2 : List Cond := [Cond.code yX12_needDarkens cX12_needDarkens 3 (some .int)]
def wsX12_pleadsAct : List Cond := .code yX12_pleadsAct cX12_pleadsAct 4 (some .int) :: ((wsX12_pleadsAct_r1 ++ wsX12_pleadsAct_r2) ++ wsX120)
def wsX12_needTells_r1 : List Cond := [Cond.methodLink RX12 346 yX12_body, Cond.instanceMethod yX12_body, Cond.selects RX12 yX12_body yX12_body, Cond.initialized RX12, Cond.code yX12_body cX12_body 2 none, Cond.fieldLink RX12 185 "EclipsesKeptModel" "ran" "I", Cond.fieldLink RX12 188 "EclipsesKeptModel" "bodies" "[I", Cond.methodLink RX12 362 yX12_pleadsAct, Cond.instanceMethod yX12_pleadsAct, Cond.selects RX12 yX12_pleadsAct yX12_pleadsAct, Cond.code yX12_pleadsAct cX12_pleadsAct 4 (some .int), Cond.fieldLink RX12 22 "EclipsesKeptModel" "kind" "[I", Cond.methodLink RX12 359 yX12_siegePleads, Cond.instanceMethod yX12_siegePleads, Cond.selects RX12 yX12_siegePleads yX12_siegePleads, Cond.code yX12_siegePleads cX12_siegePleads 3 (some .int), Cond.methodLink RX12 356 yX12_needPleads, Cond.instanceMethod yX12_needPleads, Cond.selects RX12 yX12_needPleads yX12_needPleads, Cond.code yX12_needPleads cX12_needPleads 3 (some .int), Cond.fieldLink RX12 26 "EclipsesKeptModel" "v" "[I", Cond.methodLink RX12 353 yX12_darkensAct, Cond.instanceMethod yX12_darkensAct, Cond.selects RX12 yX12_darkensAct yX12_darkensAct]
def wsX12_needTells_r2 : List Cond := [Cond.code yX12_darkensAct cX12_darkensAct 3 (some .int), Cond.methodLink RX12 349 yX12_needDarkens, Cond.instanceMethod yX12_needDarkens, Cond.selects RX12 yX12_needDarkens yX12_needDarkens, Cond.code yX12_needDarkens cX12_needDarkens 3 (some .int)]
def wsX12_needTells : List Cond := .code yX12_needTells cX12_needTells 3 (some .int) :: ((wsX12_needTells_r1 ++ wsX12_needTells_r2) ++ wsX120)
def wsX12_tellsAct_r1 : List Cond := [Cond.fieldLink RX12 22 "EclipsesKeptModel" "kind" "[I", Cond.methodLink RX12 346 yX12_body, Cond.instanceMethod yX12_body, Cond.selects RX12 yX12_body yX12_body, Cond.initialized RX12, Cond.code yX12_body cX12_body 2 none, Cond.fieldLink RX12 185 "EclipsesKeptModel" "ran" "I", Cond.fieldLink RX12 188 "EclipsesKeptModel" "bodies" "[I", Cond.methodLink RX12 365 yX12_needTells, Cond.instanceMethod yX12_needTells, Cond.selects RX12 yX12_needTells yX12_needTells, Cond.code yX12_needTells cX12_needTells 3 (some .int), Cond.methodLink RX12 362 yX12_pleadsAct, Cond.instanceMethod yX12_pleadsAct, Cond.selects RX12 yX12_pleadsAct yX12_pleadsAct, Cond.code yX12_pleadsAct cX12_pleadsAct 4 (some .int), Cond.methodLink RX12 359 yX12_siegePleads, Cond.instanceMethod yX12_siegePleads, Cond.selects RX12 yX12_siegePleads yX12_siegePleads, Cond.code yX12_siegePleads cX12_siegePleads 3 (some .int), Cond.methodLink RX12 356 yX12_needPleads, Cond.instanceMethod yX12_needPleads, Cond.selects RX12 yX12_needPleads yX12_needPleads, Cond.code yX12_needPleads cX12_needPleads 3 (some .int)]
def wsX12_tellsAct_r2 : List Cond := [Cond.fieldLink RX12 26 "EclipsesKeptModel" "v" "[I", Cond.methodLink RX12 353 yX12_darkensAct, Cond.instanceMethod yX12_darkensAct, Cond.selects RX12 yX12_darkensAct yX12_darkensAct, Cond.code yX12_darkensAct cX12_darkensAct 3 (some .int), Cond.methodLink RX12 349 yX12_needDarkens, Cond.instanceMethod yX12_needDarkens, Cond.selects RX12 yX12_needDarkens yX12_needDarkens, Cond.code yX12_needDarkens cX12_needDarkens 3 (some .int)]
def wsX12_tellsAct : List Cond := .code yX12_tellsAct cX12_tellsAct 4 (some .int) :: ((wsX12_tellsAct_r1 ++ wsX12_tellsAct_r2) ++ wsX120)
def wsX12_act_r1 : List Cond := [Cond.fieldLink RX12 185 "EclipsesKeptModel" "ran" "I", Cond.methodLink RX12 215 yX12_isNeed, Cond.instanceMethod yX12_isNeed, Cond.selects RX12 yX12_isNeed yX12_isNeed, Cond.initialized RX12, Cond.code yX12_isNeed cX12_isNeed 2 (some .boolean), Cond.fieldLink RX12 7 "EclipsesKeptModel" "needs" "I", Cond.methodLink RX12 207 yX12_in, Cond.instanceMethod yX12_in, Cond.selects RX12 yX12_in yX12_in, Cond.code yX12_in cX12_in 4 (some .boolean), Cond.methodLink RX12 353 yX12_darkensAct, Cond.instanceMethod yX12_darkensAct, Cond.selects RX12 yX12_darkensAct yX12_darkensAct, Cond.code yX12_darkensAct cX12_darkensAct 3 (some .int), Cond.fieldLink RX12 22 "EclipsesKeptModel" "kind" "[I", Cond.fieldLink RX12 26 "EclipsesKeptModel" "v" "[I", Cond.methodLink RX12 346 yX12_body, Cond.instanceMethod yX12_body, Cond.selects RX12 yX12_body yX12_body, Cond.code yX12_body cX12_body 2 none, Cond.fieldLink RX12 188 "EclipsesKeptModel" "bodies" "[I", Cond.methodLink RX12 349 yX12_needDarkens, Cond.instanceMethod yX12_needDarkens]
def wsX12_act_r2 : List Cond := [Cond.selects RX12 yX12_needDarkens yX12_needDarkens, Cond.code yX12_needDarkens cX12_needDarkens 3 (some .int), Cond.methodLink RX12 362 yX12_pleadsAct, Cond.instanceMethod yX12_pleadsAct, Cond.selects RX12 yX12_pleadsAct yX12_pleadsAct, Cond.code yX12_pleadsAct cX12_pleadsAct 4 (some .int), Cond.methodLink RX12 359 yX12_siegePleads, Cond.instanceMethod yX12_siegePleads, Cond.selects RX12 yX12_siegePleads yX12_siegePleads, Cond.code yX12_siegePleads cX12_siegePleads 3 (some .int), Cond.methodLink RX12 356 yX12_needPleads, Cond.instanceMethod yX12_needPleads, Cond.selects RX12 yX12_needPleads yX12_needPleads, Cond.code yX12_needPleads cX12_needPleads 3 (some .int), Cond.methodLink RX12 368 yX12_tellsAct, Cond.instanceMethod yX12_tellsAct, Cond.selects RX12 yX12_tellsAct yX12_tellsAct, Cond.code yX12_tellsAct cX12_tellsAct 4 (some .int), Cond.methodLink RX12 365 yX12_needTells, Cond.instanceMethod yX12_needTells, Cond.selects RX12 yX12_needTells yX12_needTells, Cond.code yX12_needTells cX12_needTells 3 (some .int)]
def wsX12_act : List Cond := .code yX12_act cX12_act 4 (some .int) :: ((wsX12_act_r1 ++ wsX12_act_r2) ++ wsX120)
def wsX12_trace : List Cond := .code yX12_trace cX12_trace 2 (some .int) :: ([.fieldLink RX12 185 "EclipsesKeptModel" "ran" "I", .fieldLink RX12 188 "EclipsesKeptModel" "bodies" "[I", .methodLink RX12 207 yX12_in, .instanceMethod yX12_in, .selects RX12 yX12_in yX12_in, .initialized RX12, .code yX12_in cX12_in 4 (some .boolean)] ++ wsX120)
def wsX12_taken : List Cond := .code yX12_taken cX12_taken 4 (some .int) :: ([.fieldLink RX12 22 "EclipsesKeptModel" "kind" "[I", .methodLink RX12 207 yX12_in, .instanceMethod yX12_in, .selects RX12 yX12_in yX12_in, .initialized RX12, .code yX12_in cX12_in 4 (some .boolean), .methodLink RX12 215 yX12_isNeed, .instanceMethod yX12_isNeed, .selects RX12 yX12_isNeed yX12_isNeed, .code yX12_isNeed cX12_isNeed 2 (some .boolean), .fieldLink RX12 7 "EclipsesKeptModel" "needs" "I"] ++ wsX120)
def wsX12_count : List Cond := .code yX12_count cX12_count 2 (some .int) :: ([.fieldLink RX12 7 "EclipsesKeptModel" "needs" "I", .fieldLink RX12 35 "EclipsesKeptModel" "archives" "I", .fieldLink RX12 100 "EclipsesKeptModel" "comes" "I", .fieldLink RX12 106 "EclipsesKeptModel" "seen" "I", .fieldLink RX12 109 "EclipsesKeptModel" "books" "I", .fieldLink RX12 41 "EclipsesKeptModel" "fed" "I", .fieldLink RX12 185 "EclipsesKeptModel" "ran" "I"] ++ wsX120)
def wsX12_tape : List Cond := .code yX12_tape cX12_tape 5 (some .int) :: ([.fieldLink RX12 191 "EclipsesKeptModel" "sort" "[I", .fieldLink RX12 194 "EclipsesKeptModel" "length" "[I", .fieldLink RX12 197 "EclipsesKeptModel" "item" "[J", .methodLink RX12 343 yX12_isTape, .instanceMethod yX12_isTape, .selects RX12 yX12_isTape yX12_isTape, .initialized RX12, .code yX12_isTape cX12_isTape 2 (some .boolean), .methodLink RX12 207 yX12_in, .instanceMethod yX12_in, .selects RX12 yX12_in yX12_in, .code yX12_in cX12_in 4 (some .boolean)] ++ wsX120)
def wsX12_narrow : List Cond := .code yX12_narrow cX12_narrow 4 (some .long) :: ([])
def wsX12_item : List Cond := .code yX12_item cX12_item 5 (some .int) :: ([.fieldLink RX12 191 "EclipsesKeptModel" "sort" "[I", .fieldLink RX12 194 "EclipsesKeptModel" "length" "[I", .fieldLink RX12 197 "EclipsesKeptModel" "item" "[J", .methodLink RX12 343 yX12_isTape, .instanceMethod yX12_isTape, .selects RX12 yX12_isTape yX12_isTape, .initialized RX12, .code yX12_isTape cX12_isTape 2 (some .boolean), .methodLink RX12 207 yX12_in, .instanceMethod yX12_in, .selects RX12 yX12_in yX12_in, .code yX12_in cX12_in 4 (some .boolean), .methodLink RX12 371 yX12_narrow, .instanceMethod yX12_narrow, .selects RX12 yX12_narrow yX12_narrow, .code yX12_narrow cX12_narrow 4 (some .long)] ++ wsX120)
def wsX12_read : List Cond := .code yX12_read cX12_read 3 (some .long) :: ([.fieldLink RX12 191 "EclipsesKeptModel" "sort" "[I", .fieldLink RX12 194 "EclipsesKeptModel" "length" "[I", .constantLong RX12 321 (-9223372036854775808), .fieldLink RX12 197 "EclipsesKeptModel" "item" "[J", .methodLink RX12 343 yX12_isTape, .instanceMethod yX12_isTape, .selects RX12 yX12_isTape yX12_isTape, .initialized RX12, .code yX12_isTape cX12_isTape 2 (some .boolean), .methodLink RX12 207 yX12_in, .instanceMethod yX12_in, .selects RX12 yX12_in yX12_in, .code yX12_in cX12_in 4 (some .boolean)] ++ wsX120)
def wsX12_shift : List Cond := .code yX12_shift cX12_shift 7 (some .int) :: ([.fieldLink RX12 191 "EclipsesKeptModel" "sort" "[I", .fieldLink RX12 194 "EclipsesKeptModel" "length" "[I", .fieldLink RX12 200 "EclipsesKeptModel" "aside" "[J", .fieldLink RX12 197 "EclipsesKeptModel" "item" "[J", .methodLink RX12 343 yX12_isTape, .instanceMethod yX12_isTape, .selects RX12 yX12_isTape yX12_isTape, .initialized RX12, .code yX12_isTape cX12_isTape 2 (some .boolean), .methodLink RX12 207 yX12_in, .instanceMethod yX12_in, .selects RX12 yX12_in yX12_in, .code yX12_in cX12_in 4 (some .boolean)] ++ wsX120)
abbrev vwCl : List vw_C := [(RJ0, TJ0, 4), (RJ4, TJ4, 4), (RX0, TX0, 10), (RX1, TX1, 4), (RX2, TX2, 4), (RX3, TX3, 4), (RX4, TX4, 4), (RX5, TX5, 4), (RX6, TX6, 4), (RX7, TX7, 17), (RX8, TX8, 3), (RX9, TX9, 4), (RX10, TX10, 8), (RX11, TX11, 8), (RX12, TX12, 63)]
end
section
theorem dX12_init_0 : decode cX12_init 0 = .ok (.aload_n 0, 1) := by decide +kernel
theorem dX12_init_1 : decode cX12_init 1 = .ok (.invokespecial 1, 3) := by decide +kernel
theorem dX12_init_4 : decode cX12_init 4 = .ok (.aload_n 0, 1) := by decide +kernel
theorem dX12_init_5 : decode cX12_init 5 = .ok (.iconst 0, 1) := by decide +kernel
theorem dX12_init_6 : decode cX12_init 6 = .ok (.putfield 7, 3) := by decide +kernel
theorem dX12_init_9 : decode cX12_init 9 = .ok (.aload_n 0, 1) := by decide +kernel
theorem dX12_init_10 : decode cX12_init 10 = .ok (.iconst 3, 1) := by decide +kernel
theorem dX12_init_11 : decode cX12_init 11 = .ok (.putfield 13, 3) := by decide +kernel
theorem dX12_init_14 : decode cX12_init 14 = .ok (.aload_n 0, 1) := by decide +kernel
theorem dX12_init_15 : decode cX12_init 15 = .ok (.iconst 0, 1) := by decide +kernel
theorem dX12_init_16 : decode cX12_init 16 = .ok (.putfield 16, 3) := by decide +kernel
theorem dX12_init_19 : decode cX12_init 19 = .ok (.aload_n 0, 1) := by decide +kernel
theorem dX12_init_20 : decode cX12_init 20 = .ok (.iconst 0, 1) := by decide +kernel
theorem dX12_init_21 : decode cX12_init 21 = .ok (.putfield 19, 3) := by decide +kernel
theorem dX12_init_24 : decode cX12_init 24 = .ok (.aload_n 0, 1) := by decide +kernel
theorem dX12_init_25 : decode cX12_init 25 = .ok (.bipush 6, 2) := by decide +kernel
theorem dX12_init_27 : decode cX12_init 27 = .ok (.newarray .int, 2) := by decide +kernel
theorem dX12_init_29 : decode cX12_init 29 = .ok (.putfield 22, 3) := by decide +kernel
theorem dX12_init_32 : decode cX12_init 32 = .ok (.aload_n 0, 1) := by decide +kernel
theorem dX12_init_33 : decode cX12_init 33 = .ok (.bipush 6, 2) := by decide +kernel
theorem dX12_init_35 : decode cX12_init 35 = .ok (.newarray .int, 2) := by decide +kernel
theorem dX12_init_37 : decode cX12_init 37 = .ok (.putfield 26, 3) := by decide +kernel
theorem dX12_init_40 : decode cX12_init 40 = .ok (.aload_n 0, 1) := by decide +kernel
theorem dX12_init_41 : decode cX12_init 41 = .ok (.bipush 6, 2) := by decide +kernel
theorem dX12_init_43 : decode cX12_init 43 = .ok (.newarray .int, 2) := by decide +kernel
theorem dX12_init_45 : decode cX12_init 45 = .ok (.putfield 29, 3) := by decide +kernel
theorem dX12_init_48 : decode cX12_init 48 = .ok (.aload_n 0, 1) := by decide +kernel
theorem dX12_init_49 : decode cX12_init 49 = .ok (.bipush 24, 2) := by decide +kernel
theorem dX12_init_51 : decode cX12_init 51 = .ok (.newarray .int, 2) := by decide +kernel
theorem dX12_init_53 : decode cX12_init 53 = .ok (.putfield 32, 3) := by decide +kernel
theorem dX12_init_56 : decode cX12_init 56 = .ok (.aload_n 0, 1) := by decide +kernel
theorem dX12_init_57 : decode cX12_init 57 = .ok (.iconst 0, 1) := by decide +kernel
theorem dX12_init_58 : decode cX12_init 58 = .ok (.putfield 35, 3) := by decide +kernel
theorem dX12_init_61 : decode cX12_init 61 = .ok (.aload_n 0, 1) := by decide +kernel
theorem dX12_init_62 : decode cX12_init 62 = .ok (.iconst (-1), 1) := by decide +kernel
theorem dX12_init_63 : decode cX12_init 63 = .ok (.putfield 38, 3) := by decide +kernel
theorem dX12_init_66 : decode cX12_init 66 = .ok (.aload_n 0, 1) := by decide +kernel
theorem dX12_init_67 : decode cX12_init 67 = .ok (.iconst 0, 1) := by decide +kernel
theorem dX12_init_68 : decode cX12_init 68 = .ok (.putfield 41, 3) := by decide +kernel
theorem dX12_init_71 : decode cX12_init 71 = .ok (.aload_n 0, 1) := by decide +kernel
theorem dX12_init_72 : decode cX12_init 72 = .ok (.iconst 0, 1) := by decide +kernel
theorem dX12_init_73 : decode cX12_init 73 = .ok (.putfield 44, 3) := by decide +kernel
theorem dX12_init_76 : decode cX12_init 76 = .ok (.aload_n 0, 1) := by decide +kernel
theorem dX12_init_77 : decode cX12_init 77 = .ok (.iconst 0, 1) := by decide +kernel
theorem dX12_init_78 : decode cX12_init 78 = .ok (.putfield 47, 3) := by decide +kernel
theorem dX12_init_81 : decode cX12_init 81 = .ok (.aload_n 0, 1) := by decide +kernel
theorem dX12_init_82 : decode cX12_init 82 = .ok (.bipush 100, 2) := by decide +kernel
theorem dX12_init_84 : decode cX12_init 84 = .ok (.newarray .int, 2) := by decide +kernel
theorem dX12_init_86 : decode cX12_init 86 = .ok (.putfield 50, 3) := by decide +kernel
theorem dX12_init_89 : decode cX12_init 89 = .ok (.aload_n 0, 1) := by decide +kernel
theorem dX12_init_90 : decode cX12_init 90 = .ok (.bipush 6, 2) := by decide +kernel
theorem dX12_init_92 : decode cX12_init 92 = .ok (.newarray .int, 2) := by decide +kernel
theorem dX12_init_94 : decode cX12_init 94 = .ok (.putfield 53, 3) := by decide +kernel
theorem dX12_init_97 : decode cX12_init 97 = .ok (.aload_n 0, 1) := by decide +kernel
theorem dX12_init_98 : decode cX12_init 98 = .ok (.bipush 60, 2) := by decide +kernel
theorem dX12_init_100 : decode cX12_init 100 = .ok (.newarray .int, 2) := by decide +kernel
theorem dX12_init_102 : decode cX12_init 102 = .ok (.putfield 56, 3) := by decide +kernel
theorem dX12_init_105 : decode cX12_init 105 = .ok (.aload_n 0, 1) := by decide +kernel
theorem dX12_init_106 : decode cX12_init 106 = .ok (.bipush 60, 2) := by decide +kernel
theorem dX12_init_108 : decode cX12_init 108 = .ok (.newarray .int, 2) := by decide +kernel
theorem dX12_init_110 : decode cX12_init 110 = .ok (.putfield 59, 3) := by decide +kernel
theorem dX12_init_113 : decode cX12_init 113 = .ok (.aload_n 0, 1) := by decide +kernel
theorem dX12_init_114 : decode cX12_init 114 = .ok (.bipush 60, 2) := by decide +kernel
theorem dX12_init_116 : decode cX12_init 116 = .ok (.newarray .int, 2) := by decide +kernel
theorem dX12_init_118 : decode cX12_init 118 = .ok (.putfield 62, 3) := by decide +kernel
theorem dX12_init_121 : decode cX12_init 121 = .ok (.aload_n 0, 1) := by decide +kernel
theorem dX12_init_122 : decode cX12_init 122 = .ok (.bipush 60, 2) := by decide +kernel
theorem dX12_init_124 : decode cX12_init 124 = .ok (.newarray .int, 2) := by decide +kernel
theorem dX12_init_126 : decode cX12_init 126 = .ok (.putfield 65, 3) := by decide +kernel
theorem dX12_init_129 : decode cX12_init 129 = .ok (.aload_n 0, 1) := by decide +kernel
theorem dX12_init_130 : decode cX12_init 130 = .ok (.sipush 600, 3) := by decide +kernel
theorem dX12_init_133 : decode cX12_init 133 = .ok (.newarray .int, 2) := by decide +kernel
theorem dX12_init_135 : decode cX12_init 135 = .ok (.putfield 68, 3) := by decide +kernel
theorem dX12_init_138 : decode cX12_init 138 = .ok (.aload_n 0, 1) := by decide +kernel
theorem dX12_init_139 : decode cX12_init 139 = .ok (.bipush 101, 2) := by decide +kernel
theorem dX12_init_141 : decode cX12_init 141 = .ok (.newarray .int, 2) := by decide +kernel
theorem dX12_init_143 : decode cX12_init 143 = .ok (.putfield 71, 3) := by decide +kernel
theorem dX12_init_146 : decode cX12_init 146 = .ok (.aload_n 0, 1) := by decide +kernel
theorem dX12_init_147 : decode cX12_init 147 = .ok (.iconst 0, 1) := by decide +kernel
theorem dX12_init_148 : decode cX12_init 148 = .ok (.putfield 74, 3) := by decide +kernel
theorem dX12_init_151 : decode cX12_init 151 = .ok (.aload_n 0, 1) := by decide +kernel
theorem dX12_init_152 : decode cX12_init 152 = .ok (.iconst 0, 1) := by decide +kernel
theorem dX12_init_153 : decode cX12_init 153 = .ok (.putfield 77, 3) := by decide +kernel
theorem dX12_init_156 : decode cX12_init 156 = .ok (.aload_n 0, 1) := by decide +kernel
theorem dX12_init_157 : decode cX12_init 157 = .ok (.iconst 0, 1) := by decide +kernel
theorem dX12_init_158 : decode cX12_init 158 = .ok (.putfield 80, 3) := by decide +kernel
theorem dX12_init_161 : decode cX12_init 161 = .ok (.aload_n 0, 1) := by decide +kernel
theorem dX12_init_162 : decode cX12_init 162 = .ok (.bipush 13, 2) := by decide +kernel
theorem dX12_init_164 : decode cX12_init 164 = .ok (.newarray .int, 2) := by decide +kernel
theorem dX12_init_166 : decode cX12_init 166 = .ok (.dup, 1) := by decide +kernel
theorem dX12_init_167 : decode cX12_init 167 = .ok (.iconst 0, 1) := by decide +kernel
theorem dX12_init_168 : decode cX12_init 168 = .ok (.bipush 102, 2) := by decide +kernel
theorem dX12_init_170 : decode cX12_init 170 = .ok (.iastore, 1) := by decide +kernel
theorem dX12_init_171 : decode cX12_init 171 = .ok (.dup, 1) := by decide +kernel
theorem dX12_init_172 : decode cX12_init 172 = .ok (.iconst 1, 1) := by decide +kernel
theorem dX12_init_173 : decode cX12_init 173 = .ok (.bipush 97, 2) := by decide +kernel
theorem dX12_init_175 : decode cX12_init 175 = .ok (.iastore, 1) := by decide +kernel
theorem dX12_init_176 : decode cX12_init 176 = .ok (.dup, 1) := by decide +kernel
theorem dX12_init_177 : decode cX12_init 177 = .ok (.iconst 2, 1) := by decide +kernel
theorem dX12_init_178 : decode cX12_init 178 = .ok (.bipush 109, 2) := by decide +kernel
theorem dX12_init_180 : decode cX12_init 180 = .ok (.iastore, 1) := by decide +kernel
theorem dX12_init_181 : decode cX12_init 181 = .ok (.dup, 1) := by decide +kernel
theorem dX12_init_182 : decode cX12_init 182 = .ok (.iconst 3, 1) := by decide +kernel
theorem dX12_init_183 : decode cX12_init 183 = .ok (.bipush 101, 2) := by decide +kernel
theorem dX12_init_185 : decode cX12_init 185 = .ok (.iastore, 1) := by decide +kernel
theorem dX12_init_186 : decode cX12_init 186 = .ok (.dup, 1) := by decide +kernel
theorem dX12_init_187 : decode cX12_init 187 = .ok (.iconst 4, 1) := by decide +kernel
theorem dX12_init_188 : decode cX12_init 188 = .ok (.bipush 115, 2) := by decide +kernel
theorem dX12_init_190 : decode cX12_init 190 = .ok (.iastore, 1) := by decide +kernel
theorem dX12_init_191 : decode cX12_init 191 = .ok (.dup, 1) := by decide +kernel
theorem dX12_init_192 : decode cX12_init 192 = .ok (.iconst 5, 1) := by decide +kernel
theorem dX12_init_193 : decode cX12_init 193 = .ok (.bipush 104, 2) := by decide +kernel
theorem dX12_init_195 : decode cX12_init 195 = .ok (.iastore, 1) := by decide +kernel
theorem dX12_init_196 : decode cX12_init 196 = .ok (.dup, 1) := by decide +kernel
theorem dX12_init_197 : decode cX12_init 197 = .ok (.bipush 6, 2) := by decide +kernel
theorem dX12_init_199 : decode cX12_init 199 = .ok (.bipush 97, 2) := by decide +kernel
theorem dX12_init_201 : decode cX12_init 201 = .ok (.iastore, 1) := by decide +kernel
theorem dX12_init_202 : decode cX12_init 202 = .ok (.dup, 1) := by decide +kernel
theorem dX12_init_203 : decode cX12_init 203 = .ok (.bipush 7, 2) := by decide +kernel
theorem dX12_init_205 : decode cX12_init 205 = .ok (.bipush 109, 2) := by decide +kernel
theorem dX12_init_207 : decode cX12_init 207 = .ok (.iastore, 1) := by decide +kernel
theorem dX12_init_208 : decode cX12_init 208 = .ok (.dup, 1) := by decide +kernel
theorem dX12_init_209 : decode cX12_init 209 = .ok (.bipush 8, 2) := by decide +kernel
theorem dX12_init_211 : decode cX12_init 211 = .ok (.bipush 101, 2) := by decide +kernel
theorem dX12_init_213 : decode cX12_init 213 = .ok (.iastore, 1) := by decide +kernel
theorem dX12_init_214 : decode cX12_init 214 = .ok (.dup, 1) := by decide +kernel
theorem dX12_init_215 : decode cX12_init 215 = .ok (.bipush 9, 2) := by decide +kernel
theorem dX12_init_217 : decode cX12_init 217 = .ok (.bipush 107, 2) := by decide +kernel
theorem dX12_init_219 : decode cX12_init 219 = .ok (.iastore, 1) := by decide +kernel
theorem dX12_init_220 : decode cX12_init 220 = .ok (.dup, 1) := by decide +kernel
theorem dX12_init_221 : decode cX12_init 221 = .ok (.bipush 10, 2) := by decide +kernel
theorem dX12_init_223 : decode cX12_init 223 = .ok (.bipush 101, 2) := by decide +kernel
theorem dX12_init_225 : decode cX12_init 225 = .ok (.iastore, 1) := by decide +kernel
theorem dX12_init_226 : decode cX12_init 226 = .ok (.dup, 1) := by decide +kernel
theorem dX12_init_227 : decode cX12_init 227 = .ok (.bipush 11, 2) := by decide +kernel
theorem dX12_init_229 : decode cX12_init 229 = .ok (.bipush 101, 2) := by decide +kernel
theorem dX12_init_231 : decode cX12_init 231 = .ok (.iastore, 1) := by decide +kernel
theorem dX12_init_232 : decode cX12_init 232 = .ok (.dup, 1) := by decide +kernel
theorem dX12_init_233 : decode cX12_init 233 = .ok (.bipush 12, 2) := by decide +kernel
theorem dX12_init_235 : decode cX12_init 235 = .ok (.bipush 112, 2) := by decide +kernel
theorem dX12_init_237 : decode cX12_init 237 = .ok (.iastore, 1) := by decide +kernel
theorem dX12_init_238 : decode cX12_init 238 = .ok (.putfield 83, 3) := by decide +kernel
theorem dX12_init_241 : decode cX12_init 241 = .ok (.aload_n 0, 1) := by decide +kernel
theorem dX12_init_242 : decode cX12_init 242 = .ok (.bipush 100, 2) := by decide +kernel
theorem dX12_init_244 : decode cX12_init 244 = .ok (.newarray .boolean, 2) := by decide +kernel
theorem dX12_init_246 : decode cX12_init 246 = .ok (.putfield 86, 3) := by decide +kernel
theorem dX12_init_249 : decode cX12_init 249 = .ok (.aload_n 0, 1) := by decide +kernel
theorem dX12_init_250 : decode cX12_init 250 = .ok (.bipush 90, 2) := by decide +kernel
theorem dX12_init_252 : decode cX12_init 252 = .ok (.newarray .long, 2) := by decide +kernel
theorem dX12_init_254 : decode cX12_init 254 = .ok (.putfield 90, 3) := by decide +kernel
theorem dX12_init_257 : decode cX12_init 257 = .ok (.aload_n 0, 1) := by decide +kernel
theorem dX12_init_258 : decode cX12_init 258 = .ok (.iconst 0, 1) := by decide +kernel
theorem dX12_init_259 : decode cX12_init 259 = .ok (.putfield 94, 3) := by decide +kernel
theorem dX12_init_262 : decode cX12_init 262 = .ok (.aload_n 0, 1) := by decide +kernel
theorem dX12_init_263 : decode cX12_init 263 = .ok (.bipush 90, 2) := by decide +kernel
theorem dX12_init_265 : decode cX12_init 265 = .ok (.newarray .long, 2) := by decide +kernel
theorem dX12_init_267 : decode cX12_init 267 = .ok (.putfield 97, 3) := by decide +kernel
theorem dX12_init_270 : decode cX12_init 270 = .ok (.aload_n 0, 1) := by decide +kernel
theorem dX12_init_271 : decode cX12_init 271 = .ok (.iconst 0, 1) := by decide +kernel
theorem dX12_init_272 : decode cX12_init 272 = .ok (.putfield 100, 3) := by decide +kernel
theorem dX12_init_275 : decode cX12_init 275 = .ok (.aload_n 0, 1) := by decide +kernel
theorem dX12_init_276 : decode cX12_init 276 = .ok (.bipush 8, 2) := by decide +kernel
theorem dX12_init_278 : decode cX12_init 278 = .ok (.newarray .int, 2) := by decide +kernel
theorem dX12_init_280 : decode cX12_init 280 = .ok (.putfield 103, 3) := by decide +kernel
theorem dX12_init_283 : decode cX12_init 283 = .ok (.aload_n 0, 1) := by decide +kernel
theorem dX12_init_284 : decode cX12_init 284 = .ok (.iconst 0, 1) := by decide +kernel
theorem dX12_init_285 : decode cX12_init 285 = .ok (.putfield 106, 3) := by decide +kernel
theorem dX12_init_288 : decode cX12_init 288 = .ok (.aload_n 0, 1) := by decide +kernel
theorem dX12_init_289 : decode cX12_init 289 = .ok (.iconst 0, 1) := by decide +kernel
theorem dX12_init_290 : decode cX12_init 290 = .ok (.putfield 109, 3) := by decide +kernel
theorem dX12_init_293 : decode cX12_init 293 = .ok (.aload_n 0, 1) := by decide +kernel
theorem dX12_init_294 : decode cX12_init 294 = .ok (.iconst 5, 1) := by decide +kernel
theorem dX12_init_295 : decode cX12_init 295 = .ok (.newarray .int, 2) := by decide +kernel
theorem dX12_init_297 : decode cX12_init 297 = .ok (.putfield 112, 3) := by decide +kernel
theorem dX12_init_300 : decode cX12_init 300 = .ok (.aload_n 0, 1) := by decide +kernel
theorem dX12_init_301 : decode cX12_init 301 = .ok (.iconst 5, 1) := by decide +kernel
theorem dX12_init_302 : decode cX12_init 302 = .ok (.newarray .int, 2) := by decide +kernel
theorem dX12_init_304 : decode cX12_init 304 = .ok (.putfield 115, 3) := by decide +kernel
theorem dX12_init_307 : decode cX12_init 307 = .ok (.aload_n 0, 1) := by decide +kernel
theorem dX12_init_308 : decode cX12_init 308 = .ok (.iconst 5, 1) := by decide +kernel
theorem dX12_init_309 : decode cX12_init 309 = .ok (.newarray .int, 2) := by decide +kernel
theorem dX12_init_311 : decode cX12_init 311 = .ok (.putfield 118, 3) := by decide +kernel
theorem dX12_init_314 : decode cX12_init 314 = .ok (.aload_n 0, 1) := by decide +kernel
theorem dX12_init_315 : decode cX12_init 315 = .ok (.bipush 8, 2) := by decide +kernel
theorem dX12_init_317 : decode cX12_init 317 = .ok (.newarray .int, 2) := by decide +kernel
theorem dX12_init_319 : decode cX12_init 319 = .ok (.putfield 121, 3) := by decide +kernel
theorem dX12_init_322 : decode cX12_init 322 = .ok (.aload_n 0, 1) := by decide +kernel
theorem dX12_init_323 : decode cX12_init 323 = .ok (.bipush 8, 2) := by decide +kernel
theorem dX12_init_325 : decode cX12_init 325 = .ok (.newarray .int, 2) := by decide +kernel
theorem dX12_init_327 : decode cX12_init 327 = .ok (.putfield 124, 3) := by decide +kernel
theorem dX12_init_330 : decode cX12_init 330 = .ok (.aload_n 0, 1) := by decide +kernel
theorem dX12_init_331 : decode cX12_init 331 = .ok (.iconst 0, 1) := by decide +kernel
theorem dX12_init_332 : decode cX12_init 332 = .ok (.putfield 127, 3) := by decide +kernel
theorem dX12_init_335 : decode cX12_init 335 = .ok (.aload_n 0, 1) := by decide +kernel
theorem dX12_init_336 : decode cX12_init 336 = .ok (.iconst (-1), 1) := by decide +kernel
theorem dX12_init_337 : decode cX12_init 337 = .ok (.putfield 131, 3) := by decide +kernel
theorem dX12_init_340 : decode cX12_init 340 = .ok (.aload_n 0, 1) := by decide +kernel
theorem dX12_init_341 : decode cX12_init 341 = .ok (.iconst 0, 1) := by decide +kernel
theorem dX12_init_342 : decode cX12_init 342 = .ok (.putfield 134, 3) := by decide +kernel
theorem dX12_init_345 : decode cX12_init 345 = .ok (.aload_n 0, 1) := by decide +kernel
theorem dX12_init_346 : decode cX12_init 346 = .ok (.iconst 0, 1) := by decide +kernel
theorem dX12_init_347 : decode cX12_init 347 = .ok (.putfield 137, 3) := by decide +kernel
theorem dX12_init_350 : decode cX12_init 350 = .ok (.aload_n 0, 1) := by decide +kernel
theorem dX12_init_351 : decode cX12_init 351 = .ok (.iconst 0, 1) := by decide +kernel
theorem dX12_init_352 : decode cX12_init 352 = .ok (.putfield 140, 3) := by decide +kernel
theorem dX12_init_355 : decode cX12_init 355 = .ok (.aload_n 0, 1) := by decide +kernel
theorem dX12_init_356 : decode cX12_init 356 = .ok (.iconst 0, 1) := by decide +kernel
theorem dX12_init_357 : decode cX12_init 357 = .ok (.putfield 143, 3) := by decide +kernel
theorem dX12_init_360 : decode cX12_init 360 = .ok (.aload_n 0, 1) := by decide +kernel
theorem dX12_init_361 : decode cX12_init 361 = .ok (.iconst 0, 1) := by decide +kernel
theorem dX12_init_362 : decode cX12_init 362 = .ok (.putfield 146, 3) := by decide +kernel
theorem dX12_init_365 : decode cX12_init 365 = .ok (.aload_n 0, 1) := by decide +kernel
theorem dX12_init_366 : decode cX12_init 366 = .ok (.iconst 0, 1) := by decide +kernel
theorem dX12_init_367 : decode cX12_init 367 = .ok (.putfield 149, 3) := by decide +kernel
theorem dX12_init_370 : decode cX12_init 370 = .ok (.aload_n 0, 1) := by decide +kernel
theorem dX12_init_371 : decode cX12_init 371 = .ok (.iconst 0, 1) := by decide +kernel
theorem dX12_init_372 : decode cX12_init 372 = .ok (.putfield 152, 3) := by decide +kernel
theorem dX12_init_375 : decode cX12_init 375 = .ok (.aload_n 0, 1) := by decide +kernel
theorem dX12_init_376 : decode cX12_init 376 = .ok (.bipush 6, 2) := by decide +kernel
theorem dX12_init_378 : decode cX12_init 378 = .ok (.newarray .int, 2) := by decide +kernel
theorem dX12_init_380 : decode cX12_init 380 = .ok (.putfield 155, 3) := by decide +kernel
theorem dX12_init_383 : decode cX12_init 383 = .ok (.aload_n 0, 1) := by decide +kernel
theorem dX12_init_384 : decode cX12_init 384 = .ok (.bipush 6, 2) := by decide +kernel
theorem dX12_init_386 : decode cX12_init 386 = .ok (.newarray .int, 2) := by decide +kernel
theorem dX12_init_388 : decode cX12_init 388 = .ok (.putfield 158, 3) := by decide +kernel
theorem dX12_init_391 : decode cX12_init 391 = .ok (.aload_n 0, 1) := by decide +kernel
theorem dX12_init_392 : decode cX12_init 392 = .ok (.bipush 6, 2) := by decide +kernel
theorem dX12_init_394 : decode cX12_init 394 = .ok (.newarray .int, 2) := by decide +kernel
theorem dX12_init_396 : decode cX12_init 396 = .ok (.putfield 161, 3) := by decide +kernel
theorem dX12_init_399 : decode cX12_init 399 = .ok (.aload_n 0, 1) := by decide +kernel
theorem dX12_init_400 : decode cX12_init 400 = .ok (.bipush 24, 2) := by decide +kernel
theorem dX12_init_402 : decode cX12_init 402 = .ok (.newarray .int, 2) := by decide +kernel
theorem dX12_init_404 : decode cX12_init 404 = .ok (.putfield 164, 3) := by decide +kernel
theorem dX12_init_407 : decode cX12_init 407 = .ok (.aload_n 0, 1) := by decide +kernel
theorem dX12_init_408 : decode cX12_init 408 = .ok (.bipush 8, 2) := by decide +kernel
theorem dX12_init_410 : decode cX12_init 410 = .ok (.newarray .int, 2) := by decide +kernel
theorem dX12_init_412 : decode cX12_init 412 = .ok (.putfield 167, 3) := by decide +kernel
theorem dX12_init_415 : decode cX12_init 415 = .ok (.aload_n 0, 1) := by decide +kernel
theorem dX12_init_416 : decode cX12_init 416 = .ok (.iconst 5, 1) := by decide +kernel
theorem dX12_init_417 : decode cX12_init 417 = .ok (.newarray .int, 2) := by decide +kernel
theorem dX12_init_419 : decode cX12_init 419 = .ok (.putfield 170, 3) := by decide +kernel
theorem dX12_init_422 : decode cX12_init 422 = .ok (.aload_n 0, 1) := by decide +kernel
theorem dX12_init_423 : decode cX12_init 423 = .ok (.iconst 5, 1) := by decide +kernel
theorem dX12_init_424 : decode cX12_init 424 = .ok (.newarray .int, 2) := by decide +kernel
theorem dX12_init_426 : decode cX12_init 426 = .ok (.putfield 173, 3) := by decide +kernel
theorem dX12_init_429 : decode cX12_init 429 = .ok (.aload_n 0, 1) := by decide +kernel
theorem dX12_init_430 : decode cX12_init 430 = .ok (.iconst 5, 1) := by decide +kernel
theorem dX12_init_431 : decode cX12_init 431 = .ok (.newarray .int, 2) := by decide +kernel
theorem dX12_init_433 : decode cX12_init 433 = .ok (.putfield 176, 3) := by decide +kernel
theorem dX12_init_436 : decode cX12_init 436 = .ok (.aload_n 0, 1) := by decide +kernel
theorem dX12_init_437 : decode cX12_init 437 = .ok (.bipush 8, 2) := by decide +kernel
theorem dX12_init_439 : decode cX12_init 439 = .ok (.newarray .int, 2) := by decide +kernel
theorem dX12_init_441 : decode cX12_init 441 = .ok (.putfield 179, 3) := by decide +kernel
theorem dX12_init_444 : decode cX12_init 444 = .ok (.aload_n 0, 1) := by decide +kernel
theorem dX12_init_445 : decode cX12_init 445 = .ok (.bipush 8, 2) := by decide +kernel
theorem dX12_init_447 : decode cX12_init 447 = .ok (.newarray .int, 2) := by decide +kernel
theorem dX12_init_449 : decode cX12_init 449 = .ok (.putfield 182, 3) := by decide +kernel
theorem dX12_init_452 : decode cX12_init 452 = .ok (.aload_n 0, 1) := by decide +kernel
theorem dX12_init_453 : decode cX12_init 453 = .ok (.iconst 0, 1) := by decide +kernel
theorem dX12_init_454 : decode cX12_init 454 = .ok (.putfield 185, 3) := by decide +kernel
theorem dX12_init_457 : decode cX12_init 457 = .ok (.aload_n 0, 1) := by decide +kernel
theorem dX12_init_458 : decode cX12_init 458 = .ok (.bipush 20, 2) := by decide +kernel
theorem dX12_init_460 : decode cX12_init 460 = .ok (.newarray .int, 2) := by decide +kernel
theorem dX12_init_462 : decode cX12_init 462 = .ok (.putfield 188, 3) := by decide +kernel
theorem dX12_init_465 : decode cX12_init 465 = .ok (.aload_n 0, 1) := by decide +kernel
theorem dX12_init_466 : decode cX12_init 466 = .ok (.bipush 6, 2) := by decide +kernel
theorem dX12_init_468 : decode cX12_init 468 = .ok (.newarray .int, 2) := by decide +kernel
theorem dX12_init_470 : decode cX12_init 470 = .ok (.dup, 1) := by decide +kernel
theorem dX12_init_471 : decode cX12_init 471 = .ok (.iconst 0, 1) := by decide +kernel
theorem dX12_init_472 : decode cX12_init 472 = .ok (.iconst (-1), 1) := by decide +kernel
theorem dX12_init_473 : decode cX12_init 473 = .ok (.iastore, 1) := by decide +kernel
theorem dX12_init_474 : decode cX12_init 474 = .ok (.dup, 1) := by decide +kernel
theorem dX12_init_475 : decode cX12_init 475 = .ok (.iconst 1, 1) := by decide +kernel
theorem dX12_init_476 : decode cX12_init 476 = .ok (.iconst (-1), 1) := by decide +kernel
theorem dX12_init_477 : decode cX12_init 477 = .ok (.iastore, 1) := by decide +kernel
theorem dX12_init_478 : decode cX12_init 478 = .ok (.dup, 1) := by decide +kernel
theorem dX12_init_479 : decode cX12_init 479 = .ok (.iconst 2, 1) := by decide +kernel
theorem dX12_init_480 : decode cX12_init 480 = .ok (.iconst (-1), 1) := by decide +kernel
theorem dX12_init_481 : decode cX12_init 481 = .ok (.iastore, 1) := by decide +kernel
theorem dX12_init_482 : decode cX12_init 482 = .ok (.dup, 1) := by decide +kernel
theorem dX12_init_483 : decode cX12_init 483 = .ok (.iconst 3, 1) := by decide +kernel
theorem dX12_init_484 : decode cX12_init 484 = .ok (.iconst (-1), 1) := by decide +kernel
theorem dX12_init_485 : decode cX12_init 485 = .ok (.iastore, 1) := by decide +kernel
theorem dX12_init_486 : decode cX12_init 486 = .ok (.dup, 1) := by decide +kernel
theorem dX12_init_487 : decode cX12_init 487 = .ok (.iconst 4, 1) := by decide +kernel
theorem dX12_init_488 : decode cX12_init 488 = .ok (.iconst (-1), 1) := by decide +kernel
theorem dX12_init_489 : decode cX12_init 489 = .ok (.iastore, 1) := by decide +kernel
theorem dX12_init_490 : decode cX12_init 490 = .ok (.dup, 1) := by decide +kernel
theorem dX12_init_491 : decode cX12_init 491 = .ok (.iconst 5, 1) := by decide +kernel
theorem dX12_init_492 : decode cX12_init 492 = .ok (.iconst (-1), 1) := by decide +kernel
theorem dX12_init_493 : decode cX12_init 493 = .ok (.iastore, 1) := by decide +kernel
theorem dX12_init_494 : decode cX12_init 494 = .ok (.putfield 191, 3) := by decide +kernel
theorem dX12_init_497 : decode cX12_init 497 = .ok (.aload_n 0, 1) := by decide +kernel
theorem dX12_init_498 : decode cX12_init 498 = .ok (.bipush 6, 2) := by decide +kernel
theorem dX12_init_500 : decode cX12_init 500 = .ok (.newarray .int, 2) := by decide +kernel
theorem dX12_init_502 : decode cX12_init 502 = .ok (.putfield 194, 3) := by decide +kernel
theorem dX12_init_505 : decode cX12_init 505 = .ok (.aload_n 0, 1) := by decide +kernel
theorem dX12_init_506 : decode cX12_init 506 = .ok (.sipush 360, 3) := by decide +kernel
theorem dX12_init_509 : decode cX12_init 509 = .ok (.newarray .long, 2) := by decide +kernel
theorem dX12_init_511 : decode cX12_init 511 = .ok (.putfield 197, 3) := by decide +kernel
theorem dX12_init_514 : decode cX12_init 514 = .ok (.aload_n 0, 1) := by decide +kernel
theorem dX12_init_515 : decode cX12_init 515 = .ok (.bipush 60, 2) := by decide +kernel
theorem dX12_init_517 : decode cX12_init 517 = .ok (.newarray .long, 2) := by decide +kernel
theorem dX12_init_519 : decode cX12_init 519 = .ok (.putfield 200, 3) := by decide +kernel
theorem dX12_init_522 : decode cX12_init 522 = .ok (.return_, 1) := by decide +kernel
theorem dX12_in_0 : decode cX12_in 0 = .ok (.iload_n 1, 1) := by decide +kernel
theorem dX12_in_1 : decode cX12_in 1 = .ok (.iload_n 2, 1) := by decide +kernel
theorem dX12_in_2 : decode cX12_in 2 = .ok (.if_icmp .lt 12, 3) := by decide +kernel
theorem dX12_in_5 : decode cX12_in 5 = .ok (.iload_n 1, 1) := by decide +kernel
theorem dX12_in_6 : decode cX12_in 6 = .ok (.iload_n 3, 1) := by decide +kernel
theorem dX12_in_7 : decode cX12_in 7 = .ok (.if_icmp .gt 7, 3) := by decide +kernel
theorem dX12_in_10 : decode cX12_in 10 = .ok (.iconst 1, 1) := by decide +kernel
theorem dX12_in_11 : decode cX12_in 11 = .ok (.goto 4, 3) := by decide +kernel
theorem dX12_in_14 : decode cX12_in 14 = .ok (.iconst 0, 1) := by decide +kernel
theorem dX12_in_15 : decode cX12_in 15 = .ok (.ireturn, 1) := by decide +kernel
theorem dX12_has_0 : decode cX12_has 0 = .ok (.iload_n 1, 1) := by decide +kernel
theorem dX12_has_1 : decode cX12_has 1 = .ok (.iload_n 2, 1) := by decide +kernel
theorem dX12_has_2 : decode cX12_has 2 = .ok (.ishr, 1) := by decide +kernel
theorem dX12_has_3 : decode cX12_has 3 = .ok (.iconst 1, 1) := by decide +kernel
theorem dX12_has_4 : decode cX12_has 4 = .ok (.iand, 1) := by decide +kernel
theorem dX12_has_5 : decode cX12_has 5 = .ok (.iconst 1, 1) := by decide +kernel
theorem dX12_has_6 : decode cX12_has 6 = .ok (.if_icmp .ne 7, 3) := by decide +kernel
theorem dX12_has_9 : decode cX12_has 9 = .ok (.iconst 1, 1) := by decide +kernel
theorem dX12_has_10 : decode cX12_has 10 = .ok (.goto 4, 3) := by decide +kernel
theorem dX12_has_13 : decode cX12_has 13 = .ok (.iconst 0, 1) := by decide +kernel
theorem dX12_has_14 : decode cX12_has 14 = .ok (.ireturn, 1) := by decide +kernel
set_option maxRecDepth 20000 in
theorem ggX12_bits_X12_has : GoodIn wsX12_bits wsX12_has := goodIn_r _ [5] (by decide +kernel) (by decide +kernel)
set_option maxRecDepth 20000 in
theorem gX12_bits_X12_has : GoodIn wsX12_bits (wsV RX12 203 RX12 yX12_has wsX12_has) := goodIn_app (goodIn_of _ (by decide +kernel)) ggX12_bits_X12_has
theorem dX12_bits_0 : decode cX12_bits 0 = .ok (.iconst 0, 1) := by decide +kernel
theorem dX12_bits_1 : decode cX12_bits 1 = .ok (.istore_n 2, 1) := by decide +kernel
theorem dX12_bits_2 : decode cX12_bits 2 = .ok (.iconst 0, 1) := by decide +kernel
theorem dX12_bits_3 : decode cX12_bits 3 = .ok (.istore_n 3, 1) := by decide +kernel
theorem dX12_bits_4 : decode cX12_bits 4 = .ok (.iload_n 3, 1) := by decide +kernel
theorem dX12_bits_5 : decode cX12_bits 5 = .ok (.bipush 8, 2) := by decide +kernel
theorem dX12_bits_7 : decode cX12_bits 7 = .ok (.if_icmp .ge 26, 3) := by decide +kernel
theorem dX12_bits_10 : decode cX12_bits 10 = .ok (.iload_n 2, 1) := by decide +kernel
theorem dX12_bits_11 : decode cX12_bits 11 = .ok (.aload_n 0, 1) := by decide +kernel
theorem dX12_bits_12 : decode cX12_bits 12 = .ok (.iload_n 1, 1) := by decide +kernel
theorem dX12_bits_13 : decode cX12_bits 13 = .ok (.iload_n 3, 1) := by decide +kernel
theorem dX12_bits_14 : decode cX12_bits 14 = .ok (.invokevirtual 203, 3) := by decide +kernel
theorem dX12_bits_17 : decode cX12_bits 17 = .ok (.ifCond .eq 7, 3) := by decide +kernel
theorem dX12_bits_20 : decode cX12_bits 20 = .ok (.iconst 1, 1) := by decide +kernel
theorem dX12_bits_21 : decode cX12_bits 21 = .ok (.goto 4, 3) := by decide +kernel
theorem dX12_bits_24 : decode cX12_bits 24 = .ok (.iconst 0, 1) := by decide +kernel
theorem dX12_bits_25 : decode cX12_bits 25 = .ok (.iadd, 1) := by decide +kernel
theorem dX12_bits_26 : decode cX12_bits 26 = .ok (.istore_n 2, 1) := by decide +kernel
theorem dX12_bits_27 : decode cX12_bits 27 = .ok (.iinc 3 1, 3) := by decide +kernel
theorem dX12_bits_30 : decode cX12_bits 30 = .ok (.goto (-26), 3) := by decide +kernel
theorem dX12_bits_33 : decode cX12_bits 33 = .ok (.iload_n 2, 1) := by decide +kernel
theorem dX12_bits_34 : decode cX12_bits 34 = .ok (.ireturn, 1) := by decide +kernel
set_option maxRecDepth 20000 in
theorem ggX12_isNeed_X12_in : GoodIn wsX12_isNeed wsX12_in := goodIn_r _ [6] (by decide +kernel) (by decide +kernel)
set_option maxRecDepth 20000 in
theorem gX12_isNeed_X12_in : GoodIn wsX12_isNeed (wsV RX12 207 RX12 yX12_in wsX12_in) := goodIn_app (goodIn_of _ (by decide +kernel)) ggX12_isNeed_X12_in
theorem dX12_isNeed_0 : decode cX12_isNeed 0 = .ok (.aload_n 0, 1) := by decide +kernel
theorem dX12_isNeed_1 : decode cX12_isNeed 1 = .ok (.iload_n 1, 1) := by decide +kernel
theorem dX12_isNeed_2 : decode cX12_isNeed 2 = .ok (.iconst 0, 1) := by decide +kernel
theorem dX12_isNeed_3 : decode cX12_isNeed 3 = .ok (.aload_n 0, 1) := by decide +kernel
theorem dX12_isNeed_4 : decode cX12_isNeed 4 = .ok (.getfield 7, 3) := by decide +kernel
theorem dX12_isNeed_7 : decode cX12_isNeed 7 = .ok (.iconst 1, 1) := by decide +kernel
theorem dX12_isNeed_8 : decode cX12_isNeed 8 = .ok (.isub, 1) := by decide +kernel
theorem dX12_isNeed_9 : decode cX12_isNeed 9 = .ok (.invokevirtual 207, 3) := by decide +kernel
theorem dX12_isNeed_12 : decode cX12_isNeed 12 = .ok (.ireturn, 1) := by decide +kernel
set_option maxRecDepth 20000 in
theorem ggX12_isDarks_X12_in : GoodIn wsX12_isDarks wsX12_in := goodIn_r _ [5] (by decide +kernel) (by decide +kernel)
set_option maxRecDepth 20000 in
theorem gX12_isDarks_X12_in : GoodIn wsX12_isDarks (wsV RX12 207 RX12 yX12_in wsX12_in) := goodIn_app (goodIn_of _ (by decide +kernel)) ggX12_isDarks_X12_in
theorem dX12_isDarks_0 : decode cX12_isDarks 0 = .ok (.aload_n 0, 1) := by decide +kernel
theorem dX12_isDarks_1 : decode cX12_isDarks 1 = .ok (.iload_n 1, 1) := by decide +kernel
theorem dX12_isDarks_2 : decode cX12_isDarks 2 = .ok (.iconst 0, 1) := by decide +kernel
theorem dX12_isDarks_3 : decode cX12_isDarks 3 = .ok (.bipush 8, 2) := by decide +kernel
theorem dX12_isDarks_5 : decode cX12_isDarks 5 = .ok (.invokevirtual 207, 3) := by decide +kernel
theorem dX12_isDarks_8 : decode cX12_isDarks 8 = .ok (.ireturn, 1) := by decide +kernel
set_option maxRecDepth 20000 in
theorem ggX12_need_X12_in : GoodIn wsX12_need wsX12_in := goodIn_r _ [10] (by decide +kernel) (by decide +kernel)
set_option maxRecDepth 20000 in
theorem gX12_need_X12_in : GoodIn wsX12_need (wsV RX12 207 RX12 yX12_in wsX12_in) := goodIn_app (goodIn_of _ (by decide +kernel)) ggX12_need_X12_in
theorem dX12_need_0 : decode cX12_need 0 = .ok (.aload_n 0, 1) := by decide +kernel
theorem dX12_need_1 : decode cX12_need 1 = .ok (.iload_n 1, 1) := by decide +kernel
theorem dX12_need_2 : decode cX12_need 2 = .ok (.iconst 0, 1) := by decide +kernel
theorem dX12_need_3 : decode cX12_need 3 = .ok (.bipush 6, 2) := by decide +kernel
theorem dX12_need_5 : decode cX12_need 5 = .ok (.invokevirtual 207, 3) := by decide +kernel
theorem dX12_need_8 : decode cX12_need 8 = .ok (.ifCond .ne 5, 3) := by decide +kernel
theorem dX12_need_11 : decode cX12_need 11 = .ok (.iconst (-1), 1) := by decide +kernel
theorem dX12_need_12 : decode cX12_need 12 = .ok (.ireturn, 1) := by decide +kernel
theorem dX12_need_13 : decode cX12_need 13 = .ok (.aload_n 0, 1) := by decide +kernel
theorem dX12_need_14 : decode cX12_need 14 = .ok (.iload_n 2, 1) := by decide +kernel
theorem dX12_need_15 : decode cX12_need 15 = .ok (.iconst 0, 1) := by decide +kernel
theorem dX12_need_16 : decode cX12_need 16 = .ok (.bipush 9, 2) := by decide +kernel
theorem dX12_need_18 : decode cX12_need 18 = .ok (.invokevirtual 207, 3) := by decide +kernel
theorem dX12_need_21 : decode cX12_need 21 = .ok (.ifCond .ne 6, 3) := by decide +kernel
theorem dX12_need_24 : decode cX12_need 24 = .ok (.bipush (-2), 2) := by decide +kernel
theorem dX12_need_26 : decode cX12_need 26 = .ok (.ireturn, 1) := by decide +kernel
theorem dX12_need_27 : decode cX12_need 27 = .ok (.aload_n 0, 1) := by decide +kernel
theorem dX12_need_28 : decode cX12_need 28 = .ok (.getfield 7, 3) := by decide +kernel
theorem dX12_need_31 : decode cX12_need 31 = .ok (.bipush 6, 2) := by decide +kernel
theorem dX12_need_33 : decode cX12_need 33 = .ok (.if_icmp .ne 6, 3) := by decide +kernel
theorem dX12_need_36 : decode cX12_need 36 = .ok (.bipush (-4), 2) := by decide +kernel
theorem dX12_need_38 : decode cX12_need 38 = .ok (.ireturn, 1) := by decide +kernel
theorem dX12_need_39 : decode cX12_need 39 = .ok (.aload_n 0, 1) := by decide +kernel
theorem dX12_need_40 : decode cX12_need 40 = .ok (.getfield 22, 3) := by decide +kernel
theorem dX12_need_43 : decode cX12_need 43 = .ok (.aload_n 0, 1) := by decide +kernel
theorem dX12_need_44 : decode cX12_need 44 = .ok (.getfield 7, 3) := by decide +kernel
theorem dX12_need_47 : decode cX12_need 47 = .ok (.iload_n 1, 1) := by decide +kernel
theorem dX12_need_48 : decode cX12_need 48 = .ok (.iastore, 1) := by decide +kernel
theorem dX12_need_49 : decode cX12_need 49 = .ok (.aload_n 0, 1) := by decide +kernel
theorem dX12_need_50 : decode cX12_need 50 = .ok (.getfield 26, 3) := by decide +kernel
theorem dX12_need_53 : decode cX12_need 53 = .ok (.aload_n 0, 1) := by decide +kernel
theorem dX12_need_54 : decode cX12_need 54 = .ok (.getfield 7, 3) := by decide +kernel
theorem dX12_need_57 : decode cX12_need 57 = .ok (.iload_n 2, 1) := by decide +kernel
theorem dX12_need_58 : decode cX12_need 58 = .ok (.iastore, 1) := by decide +kernel
theorem dX12_need_59 : decode cX12_need 59 = .ok (.aload_n 0, 1) := by decide +kernel
theorem dX12_need_60 : decode cX12_need 60 = .ok (.getfield 29, 3) := by decide +kernel
theorem dX12_need_63 : decode cX12_need 63 = .ok (.aload_n 0, 1) := by decide +kernel
theorem dX12_need_64 : decode cX12_need 64 = .ok (.getfield 7, 3) := by decide +kernel
theorem dX12_need_67 : decode cX12_need 67 = .ok (.iconst 0, 1) := by decide +kernel
theorem dX12_need_68 : decode cX12_need 68 = .ok (.iastore, 1) := by decide +kernel
theorem dX12_need_69 : decode cX12_need 69 = .ok (.iconst 0, 1) := by decide +kernel
theorem dX12_need_70 : decode cX12_need 70 = .ok (.istore_n 3, 1) := by decide +kernel
theorem dX12_need_71 : decode cX12_need 71 = .ok (.iload_n 3, 1) := by decide +kernel
theorem dX12_need_72 : decode cX12_need 72 = .ok (.iconst 4, 1) := by decide +kernel
theorem dX12_need_73 : decode cX12_need 73 = .ok (.if_icmp .ge 23, 3) := by decide +kernel
theorem dX12_need_76 : decode cX12_need 76 = .ok (.aload_n 0, 1) := by decide +kernel
theorem dX12_need_77 : decode cX12_need 77 = .ok (.getfield 32, 3) := by decide +kernel
theorem dX12_need_80 : decode cX12_need 80 = .ok (.iconst 4, 1) := by decide +kernel
theorem dX12_need_81 : decode cX12_need 81 = .ok (.aload_n 0, 1) := by decide +kernel
theorem dX12_need_82 : decode cX12_need 82 = .ok (.getfield 7, 3) := by decide +kernel
theorem dX12_need_85 : decode cX12_need 85 = .ok (.imul, 1) := by decide +kernel
theorem dX12_need_86 : decode cX12_need 86 = .ok (.iload_n 3, 1) := by decide +kernel
theorem dX12_need_87 : decode cX12_need 87 = .ok (.iadd, 1) := by decide +kernel
theorem dX12_need_88 : decode cX12_need 88 = .ok (.iconst 0, 1) := by decide +kernel
theorem dX12_need_89 : decode cX12_need 89 = .ok (.iastore, 1) := by decide +kernel
theorem dX12_need_90 : decode cX12_need 90 = .ok (.iinc 3 1, 3) := by decide +kernel
theorem dX12_need_93 : decode cX12_need 93 = .ok (.goto (-22), 3) := by decide +kernel
theorem dX12_need_96 : decode cX12_need 96 = .ok (.aload_n 0, 1) := by decide +kernel
theorem dX12_need_97 : decode cX12_need 97 = .ok (.dup, 1) := by decide +kernel
theorem dX12_need_98 : decode cX12_need 98 = .ok (.getfield 7, 3) := by decide +kernel
theorem dX12_need_101 : decode cX12_need 101 = .ok (.iconst 1, 1) := by decide +kernel
theorem dX12_need_102 : decode cX12_need 102 = .ok (.iadd, 1) := by decide +kernel
theorem dX12_need_103 : decode cX12_need 103 = .ok (.putfield 7, 3) := by decide +kernel
theorem dX12_need_106 : decode cX12_need 106 = .ok (.aload_n 0, 1) := by decide +kernel
theorem dX12_need_107 : decode cX12_need 107 = .ok (.getfield 7, 3) := by decide +kernel
theorem dX12_need_110 : decode cX12_need 110 = .ok (.iconst 1, 1) := by decide +kernel
theorem dX12_need_111 : decode cX12_need 111 = .ok (.isub, 1) := by decide +kernel
theorem dX12_need_112 : decode cX12_need 112 = .ok (.ireturn, 1) := by decide +kernel
set_option maxRecDepth 20000 in
theorem ggX12_darks_X12_isDarks : GoodIn wsX12_darks wsX12_isDarks := goodIn_r _ [6, 7, 8, 9, 5, 10] (by decide +kernel) (by decide +kernel)
set_option maxRecDepth 20000 in
theorem gX12_darks_X12_isDarks : GoodIn wsX12_darks (wsV RX12 211 RX12 yX12_isDarks wsX12_isDarks) := goodIn_app (goodIn_of _ (by decide +kernel)) ggX12_darks_X12_isDarks
theorem dX12_darks_0 : decode cX12_darks 0 = .ok (.aload_n 0, 1) := by decide +kernel
theorem dX12_darks_1 : decode cX12_darks 1 = .ok (.iload_n 1, 1) := by decide +kernel
theorem dX12_darks_2 : decode cX12_darks 2 = .ok (.invokevirtual 211, 3) := by decide +kernel
theorem dX12_darks_5 : decode cX12_darks 5 = .ok (.ifCond .ne 6, 3) := by decide +kernel
theorem dX12_darks_8 : decode cX12_darks 8 = .ok (.bipush (-2), 2) := by decide +kernel
theorem dX12_darks_10 : decode cX12_darks 10 = .ok (.ireturn, 1) := by decide +kernel
theorem dX12_darks_11 : decode cX12_darks 11 = .ok (.aload_n 0, 1) := by decide +kernel
theorem dX12_darks_12 : decode cX12_darks 12 = .ok (.getfield 13, 3) := by decide +kernel
theorem dX12_darks_15 : decode cX12_darks 15 = .ok (.istore_n 2, 1) := by decide +kernel
theorem dX12_darks_16 : decode cX12_darks 16 = .ok (.aload_n 0, 1) := by decide +kernel
theorem dX12_darks_17 : decode cX12_darks 17 = .ok (.iload_n 1, 1) := by decide +kernel
theorem dX12_darks_18 : decode cX12_darks 18 = .ok (.putfield 13, 3) := by decide +kernel
theorem dX12_darks_21 : decode cX12_darks 21 = .ok (.iload_n 2, 1) := by decide +kernel
theorem dX12_darks_22 : decode cX12_darks 22 = .ok (.ireturn, 1) := by decide +kernel
set_option maxRecDepth 20000 in
theorem ggX12_row_X12_isNeed : GoodIn wsX12_row wsX12_isNeed := goodIn_r _ [7, 8, 9, 10, 11, 6, 12, 13, 14, 15, 16, 17, 18, 19, 20, 21, 22, 23, 24, 25, 26, 27, 28, 29, 30, 31, 32, 33, 34, 35, 36, 37, 38, 39, 40, 41, 42, 43, 44, 45, 46, 47, 48, 49, 50, 51, 52, 53, 54, 55, 56, 57, 58, 59, 60, 61, 62, 63, 64, 65, 66, 67, 68, 69, 70, 71, 72, 73, 74, 75] (by decide +kernel) (by decide +kernel)
set_option maxRecDepth 20000 in
theorem gX12_row_X12_isNeed : GoodIn wsX12_row (wsV RX12 215 RX12 yX12_isNeed wsX12_isNeed) := goodIn_app (goodIn_of _ (by decide +kernel)) ggX12_row_X12_isNeed
set_option maxRecDepth 20000 in
theorem ggX12_row_X12_in : GoodIn wsX12_row wsX12_in := goodIn_r _ [12] (by decide +kernel) (by decide +kernel)
set_option maxRecDepth 20000 in
theorem gX12_row_X12_in : GoodIn wsX12_row (wsV RX12 207 RX12 yX12_in wsX12_in) := goodIn_app (goodIn_of _ (by decide +kernel)) ggX12_row_X12_in
theorem dX12_row_0 : decode cX12_row 0 = .ok (.aload_n 0, 1) := by decide +kernel
theorem dX12_row_1 : decode cX12_row 1 = .ok (.iload_n 1, 1) := by decide +kernel
theorem dX12_row_2 : decode cX12_row 2 = .ok (.invokevirtual 215, 3) := by decide +kernel
theorem dX12_row_5 : decode cX12_row 5 = .ok (.ifCond .eq 13, 3) := by decide +kernel
theorem dX12_row_8 : decode cX12_row 8 = .ok (.aload_n 0, 1) := by decide +kernel
theorem dX12_row_9 : decode cX12_row 9 = .ok (.iload_n 2, 1) := by decide +kernel
theorem dX12_row_10 : decode cX12_row 10 = .ok (.iconst 0, 1) := by decide +kernel
theorem dX12_row_11 : decode cX12_row 11 = .ok (.iconst 3, 1) := by decide +kernel
theorem dX12_row_12 : decode cX12_row 12 = .ok (.invokevirtual 207, 3) := by decide +kernel
theorem dX12_row_15 : decode cX12_row 15 = .ok (.ifCond .ne 5, 3) := by decide +kernel
theorem dX12_row_18 : decode cX12_row 18 = .ok (.iconst (-1), 1) := by decide +kernel
theorem dX12_row_19 : decode cX12_row 19 = .ok (.ireturn, 1) := by decide +kernel
theorem dX12_row_20 : decode cX12_row 20 = .ok (.aload_n 0, 1) := by decide +kernel
theorem dX12_row_21 : decode cX12_row 21 = .ok (.iload_n 3, 1) := by decide +kernel
theorem dX12_row_22 : decode cX12_row 22 = .ok (.iconst 0, 1) := by decide +kernel
theorem dX12_row_23 : decode cX12_row 23 = .ok (.bipush 9, 2) := by decide +kernel
theorem dX12_row_25 : decode cX12_row 25 = .ok (.invokevirtual 207, 3) := by decide +kernel
theorem dX12_row_28 : decode cX12_row 28 = .ok (.ifCond .ne 6, 3) := by decide +kernel
theorem dX12_row_31 : decode cX12_row 31 = .ok (.bipush (-2), 2) := by decide +kernel
theorem dX12_row_33 : decode cX12_row 33 = .ok (.ireturn, 1) := by decide +kernel
theorem dX12_row_34 : decode cX12_row 34 = .ok (.aload_n 0, 1) := by decide +kernel
theorem dX12_row_35 : decode cX12_row 35 = .ok (.getfield 22, 3) := by decide +kernel
theorem dX12_row_38 : decode cX12_row 38 = .ok (.iload_n 1, 1) := by decide +kernel
theorem dX12_row_39 : decode cX12_row 39 = .ok (.iaload, 1) := by decide +kernel
theorem dX12_row_40 : decode cX12_row 40 = .ok (.bipush 6, 2) := by decide +kernel
theorem dX12_row_42 : decode cX12_row 42 = .ok (.if_icmp .eq 6, 3) := by decide +kernel
theorem dX12_row_45 : decode cX12_row 45 = .ok (.bipush (-3), 2) := by decide +kernel
theorem dX12_row_47 : decode cX12_row 47 = .ok (.ireturn, 1) := by decide +kernel
theorem dX12_row_48 : decode cX12_row 48 = .ok (.aload_n 0, 1) := by decide +kernel
theorem dX12_row_49 : decode cX12_row 49 = .ok (.getfield 32, 3) := by decide +kernel
theorem dX12_row_52 : decode cX12_row 52 = .ok (.iconst 4, 1) := by decide +kernel
theorem dX12_row_53 : decode cX12_row 53 = .ok (.iload_n 1, 1) := by decide +kernel
theorem dX12_row_54 : decode cX12_row 54 = .ok (.imul, 1) := by decide +kernel
theorem dX12_row_55 : decode cX12_row 55 = .ok (.iload_n 2, 1) := by decide +kernel
theorem dX12_row_56 : decode cX12_row 56 = .ok (.iadd, 1) := by decide +kernel
theorem dX12_row_57 : decode cX12_row 57 = .ok (.iaload, 1) := by decide +kernel
theorem dX12_row_58 : decode cX12_row 58 = .ok (.istore 4, 2) := by decide +kernel
theorem dX12_row_60 : decode cX12_row 60 = .ok (.aload_n 0, 1) := by decide +kernel
theorem dX12_row_61 : decode cX12_row 61 = .ok (.getfield 32, 3) := by decide +kernel
theorem dX12_row_64 : decode cX12_row 64 = .ok (.iconst 4, 1) := by decide +kernel
theorem dX12_row_65 : decode cX12_row 65 = .ok (.iload_n 1, 1) := by decide +kernel
theorem dX12_row_66 : decode cX12_row 66 = .ok (.imul, 1) := by decide +kernel
theorem dX12_row_67 : decode cX12_row 67 = .ok (.iload_n 2, 1) := by decide +kernel
theorem dX12_row_68 : decode cX12_row 68 = .ok (.iadd, 1) := by decide +kernel
theorem dX12_row_69 : decode cX12_row 69 = .ok (.iload_n 3, 1) := by decide +kernel
theorem dX12_row_70 : decode cX12_row 70 = .ok (.iastore, 1) := by decide +kernel
theorem dX12_row_71 : decode cX12_row 71 = .ok (.iload 4, 2) := by decide +kernel
theorem dX12_row_73 : decode cX12_row 73 = .ok (.ireturn, 1) := by decide +kernel
set_option maxRecDepth 20000 in
theorem ggX12_feed_X12_in : GoodIn wsX12_feed wsX12_in := goodIn_r _ [7] (by decide +kernel) (by decide +kernel)
set_option maxRecDepth 20000 in
theorem gX12_feed_X12_in : GoodIn wsX12_feed (wsV RX12 207 RX12 yX12_in wsX12_in) := goodIn_app (goodIn_of _ (by decide +kernel)) ggX12_feed_X12_in
theorem dX12_feed_0 : decode cX12_feed 0 = .ok (.aload_n 0, 1) := by decide +kernel
theorem dX12_feed_1 : decode cX12_feed 1 = .ok (.iload_n 1, 1) := by decide +kernel
theorem dX12_feed_2 : decode cX12_feed 2 = .ok (.iconst 0, 1) := by decide +kernel
theorem dX12_feed_3 : decode cX12_feed 3 = .ok (.bipush 127, 2) := by decide +kernel
theorem dX12_feed_5 : decode cX12_feed 5 = .ok (.invokevirtual 207, 3) := by decide +kernel
theorem dX12_feed_8 : decode cX12_feed 8 = .ok (.ifCond .ne 6, 3) := by decide +kernel
theorem dX12_feed_11 : decode cX12_feed 11 = .ok (.bipush (-2), 2) := by decide +kernel
theorem dX12_feed_13 : decode cX12_feed 13 = .ok (.ireturn, 1) := by decide +kernel
theorem dX12_feed_14 : decode cX12_feed 14 = .ok (.aload_n 0, 1) := by decide +kernel
theorem dX12_feed_15 : decode cX12_feed 15 = .ok (.getfield 41, 3) := by decide +kernel
theorem dX12_feed_18 : decode cX12_feed 18 = .ok (.bipush 100, 2) := by decide +kernel
theorem dX12_feed_20 : decode cX12_feed 20 = .ok (.if_icmp .ne 6, 3) := by decide +kernel
theorem dX12_feed_23 : decode cX12_feed 23 = .ok (.bipush (-4), 2) := by decide +kernel
theorem dX12_feed_25 : decode cX12_feed 25 = .ok (.ireturn, 1) := by decide +kernel
theorem dX12_feed_26 : decode cX12_feed 26 = .ok (.aload_n 0, 1) := by decide +kernel
theorem dX12_feed_27 : decode cX12_feed 27 = .ok (.getfield 50, 3) := by decide +kernel
theorem dX12_feed_30 : decode cX12_feed 30 = .ok (.aload_n 0, 1) := by decide +kernel
theorem dX12_feed_31 : decode cX12_feed 31 = .ok (.getfield 41, 3) := by decide +kernel
theorem dX12_feed_34 : decode cX12_feed 34 = .ok (.iload_n 1, 1) := by decide +kernel
theorem dX12_feed_35 : decode cX12_feed 35 = .ok (.iastore, 1) := by decide +kernel
theorem dX12_feed_36 : decode cX12_feed 36 = .ok (.aload_n 0, 1) := by decide +kernel
theorem dX12_feed_37 : decode cX12_feed 37 = .ok (.dup, 1) := by decide +kernel
theorem dX12_feed_38 : decode cX12_feed 38 = .ok (.getfield 41, 3) := by decide +kernel
theorem dX12_feed_41 : decode cX12_feed 41 = .ok (.iconst 1, 1) := by decide +kernel
theorem dX12_feed_42 : decode cX12_feed 42 = .ok (.iadd, 1) := by decide +kernel
theorem dX12_feed_43 : decode cX12_feed 43 = .ok (.putfield 41, 3) := by decide +kernel
theorem dX12_feed_46 : decode cX12_feed 46 = .ok (.aload_n 0, 1) := by decide +kernel
theorem dX12_feed_47 : decode cX12_feed 47 = .ok (.getfield 41, 3) := by decide +kernel
theorem dX12_feed_50 : decode cX12_feed 50 = .ok (.ireturn, 1) := by decide +kernel
theorem dX12_next_0 : decode cX12_next 0 = .ok (.aload_n 0, 1) := by decide +kernel
theorem dX12_next_1 : decode cX12_next 1 = .ok (.getfield 44, 3) := by decide +kernel
theorem dX12_next_4 : decode cX12_next 4 = .ok (.aload_n 0, 1) := by decide +kernel
theorem dX12_next_5 : decode cX12_next 5 = .ok (.getfield 41, 3) := by decide +kernel
theorem dX12_next_8 : decode cX12_next 8 = .ok (.if_icmp .ge 15, 3) := by decide +kernel
theorem dX12_next_11 : decode cX12_next 11 = .ok (.aload_n 0, 1) := by decide +kernel
theorem dX12_next_12 : decode cX12_next 12 = .ok (.getfield 50, 3) := by decide +kernel
theorem dX12_next_15 : decode cX12_next 15 = .ok (.aload_n 0, 1) := by decide +kernel
theorem dX12_next_16 : decode cX12_next 16 = .ok (.getfield 44, 3) := by decide +kernel
theorem dX12_next_19 : decode cX12_next 19 = .ok (.iaload, 1) := by decide +kernel
theorem dX12_next_20 : decode cX12_next 20 = .ok (.goto 4, 3) := by decide +kernel
theorem dX12_next_23 : decode cX12_next 23 = .ok (.iconst (-1), 1) := by decide +kernel
theorem dX12_next_24 : decode cX12_next 24 = .ok (.ireturn, 1) := by decide +kernel
set_option maxRecDepth 20000 in
theorem ggX12_takes_X12_next : GoodIn wsX12_takes wsX12_next := goodIn_r _ [6, 1, 7, 8, 9, 10, 11, 12, 13, 14, 15, 16, 17, 18, 19, 20, 21, 22, 23, 24, 25, 26, 27, 28, 29, 30, 31, 32, 33, 34, 35, 36, 37, 38, 39, 40, 41, 42, 43, 44, 45, 46, 47, 48, 49, 50, 51, 52, 53, 54, 55, 56, 57, 58, 59, 60, 61, 62, 63, 64, 65, 66, 67, 68, 69, 70, 71] (by decide +kernel) (by decide +kernel)
set_option maxRecDepth 20000 in
theorem gX12_takes_X12_next : GoodIn wsX12_takes (wsV RX12 218 RX12 yX12_next wsX12_next) := goodIn_app (goodIn_of _ (by decide +kernel)) ggX12_takes_X12_next
theorem dX12_takes_0 : decode cX12_takes 0 = .ok (.aload_n 0, 1) := by decide +kernel
theorem dX12_takes_1 : decode cX12_takes 1 = .ok (.invokevirtual 218, 3) := by decide +kernel
theorem dX12_takes_4 : decode cX12_takes 4 = .ok (.iload_n 1, 1) := by decide +kernel
theorem dX12_takes_5 : decode cX12_takes 5 = .ok (.if_icmp .eq 5, 3) := by decide +kernel
theorem dX12_takes_8 : decode cX12_takes 8 = .ok (.iconst 0, 1) := by decide +kernel
theorem dX12_takes_9 : decode cX12_takes 9 = .ok (.ireturn, 1) := by decide +kernel
theorem dX12_takes_10 : decode cX12_takes 10 = .ok (.aload_n 0, 1) := by decide +kernel
theorem dX12_takes_11 : decode cX12_takes 11 = .ok (.dup, 1) := by decide +kernel
theorem dX12_takes_12 : decode cX12_takes 12 = .ok (.getfield 44, 3) := by decide +kernel
theorem dX12_takes_15 : decode cX12_takes 15 = .ok (.iconst 1, 1) := by decide +kernel
theorem dX12_takes_16 : decode cX12_takes 16 = .ok (.iadd, 1) := by decide +kernel
theorem dX12_takes_17 : decode cX12_takes 17 = .ok (.putfield 44, 3) := by decide +kernel
theorem dX12_takes_20 : decode cX12_takes 20 = .ok (.iconst 1, 1) := by decide +kernel
theorem dX12_takes_21 : decode cX12_takes 21 = .ok (.ireturn, 1) := by decide +kernel
set_option maxRecDepth 20000 in
theorem ggX12_takesWord_X12_takes : GoodIn wsX12_takesWord wsX12_takes := goodIn_r _ [6, 7, 8, 9, 10, 5, 11, 12, 13, 14, 15, 16, 17, 18, 19, 20, 21, 22, 23, 24, 25, 26, 27, 28, 29, 30, 31, 32, 33, 34, 35, 36, 37, 38, 39, 40, 41, 42, 43, 44, 45, 46, 47, 48, 49, 50, 51, 52, 53, 54, 55, 56, 57, 58, 59, 60, 61, 62, 63, 64, 65, 66, 67, 68, 69, 70, 71, 72, 73, 74, 75, 76] (by decide +kernel) (by decide +kernel)
set_option maxRecDepth 20000 in
theorem gX12_takesWord_X12_takes : GoodIn wsX12_takesWord (wsV RX12 222 RX12 yX12_takes wsX12_takes) := goodIn_app (goodIn_of _ (by decide +kernel)) ggX12_takesWord_X12_takes
theorem dX12_takesWord_0 : decode cX12_takesWord 0 = .ok (.iconst 0, 1) := by decide +kernel
theorem dX12_takesWord_1 : decode cX12_takesWord 1 = .ok (.istore_n 3, 1) := by decide +kernel
theorem dX12_takesWord_2 : decode cX12_takesWord 2 = .ok (.iload_n 3, 1) := by decide +kernel
theorem dX12_takesWord_3 : decode cX12_takesWord 3 = .ok (.iload_n 2, 1) := by decide +kernel
theorem dX12_takesWord_4 : decode cX12_takesWord 4 = .ok (.if_icmp .ge 26, 3) := by decide +kernel
theorem dX12_takesWord_7 : decode cX12_takesWord 7 = .ok (.aload_n 0, 1) := by decide +kernel
theorem dX12_takesWord_8 : decode cX12_takesWord 8 = .ok (.aload_n 0, 1) := by decide +kernel
theorem dX12_takesWord_9 : decode cX12_takesWord 9 = .ok (.getfield 83, 3) := by decide +kernel
theorem dX12_takesWord_12 : decode cX12_takesWord 12 = .ok (.iload_n 1, 1) := by decide +kernel
theorem dX12_takesWord_13 : decode cX12_takesWord 13 = .ok (.iload_n 3, 1) := by decide +kernel
theorem dX12_takesWord_14 : decode cX12_takesWord 14 = .ok (.iadd, 1) := by decide +kernel
theorem dX12_takesWord_15 : decode cX12_takesWord 15 = .ok (.iaload, 1) := by decide +kernel
theorem dX12_takesWord_16 : decode cX12_takesWord 16 = .ok (.invokevirtual 222, 3) := by decide +kernel
theorem dX12_takesWord_19 : decode cX12_takesWord 19 = .ok (.ifCond .ne 5, 3) := by decide +kernel
theorem dX12_takesWord_22 : decode cX12_takesWord 22 = .ok (.iconst 0, 1) := by decide +kernel
theorem dX12_takesWord_23 : decode cX12_takesWord 23 = .ok (.ireturn, 1) := by decide +kernel
theorem dX12_takesWord_24 : decode cX12_takesWord 24 = .ok (.iinc 3 1, 3) := by decide +kernel
theorem dX12_takesWord_27 : decode cX12_takesWord 27 = .ok (.goto (-25), 3) := by decide +kernel
theorem dX12_takesWord_30 : decode cX12_takesWord 30 = .ok (.aload_n 0, 1) := by decide +kernel
theorem dX12_takesWord_31 : decode cX12_takesWord 31 = .ok (.bipush 32, 2) := by decide +kernel
theorem dX12_takesWord_33 : decode cX12_takesWord 33 = .ok (.invokevirtual 222, 3) := by decide +kernel
theorem dX12_takesWord_36 : decode cX12_takesWord 36 = .ok (.ireturn, 1) := by decide +kernel
set_option maxRecDepth 20000 in
theorem ggX12_isDigit_X12_next : GoodIn wsX12_isDigit wsX12_next := goodIn_r _ [5, 6, 7, 8, 13, 14, 15, 16, 17, 18, 19, 20, 21, 22, 23, 24, 25, 26, 27, 28, 29, 30, 31, 32, 33, 34, 35, 36, 37, 38, 39, 40, 41, 42, 43, 44, 45, 46, 47, 48, 49, 50, 51, 52, 53, 54, 55, 56, 57, 58, 59, 60, 61, 62, 63, 64, 65, 66, 67, 68, 69, 70, 71, 72, 73, 74, 75] (by decide +kernel) (by decide +kernel)
set_option maxRecDepth 20000 in
theorem gX12_isDigit_X12_next : GoodIn wsX12_isDigit (wsV RX12 218 RX12 yX12_next wsX12_next) := goodIn_app (goodIn_of _ (by decide +kernel)) ggX12_isDigit_X12_next
set_option maxRecDepth 20000 in
theorem ggX12_isDigit_X12_in : GoodIn wsX12_isDigit wsX12_in := goodIn_r _ [12] (by decide +kernel) (by decide +kernel)
set_option maxRecDepth 20000 in
theorem gX12_isDigit_X12_in : GoodIn wsX12_isDigit (wsV RX12 207 RX12 yX12_in wsX12_in) := goodIn_app (goodIn_of _ (by decide +kernel)) ggX12_isDigit_X12_in
theorem dX12_isDigit_0 : decode cX12_isDigit 0 = .ok (.aload_n 0, 1) := by decide +kernel
theorem dX12_isDigit_1 : decode cX12_isDigit 1 = .ok (.aload_n 0, 1) := by decide +kernel
theorem dX12_isDigit_2 : decode cX12_isDigit 2 = .ok (.invokevirtual 218, 3) := by decide +kernel
theorem dX12_isDigit_5 : decode cX12_isDigit 5 = .ok (.bipush 48, 2) := by decide +kernel
theorem dX12_isDigit_7 : decode cX12_isDigit 7 = .ok (.bipush 57, 2) := by decide +kernel
theorem dX12_isDigit_9 : decode cX12_isDigit 9 = .ok (.invokevirtual 207, 3) := by decide +kernel
theorem dX12_isDigit_12 : decode cX12_isDigit 12 = .ok (.ireturn, 1) := by decide +kernel
set_option maxRecDepth 20000 in
theorem ggX12_takesNumber_X12_isDigit : GoodIn wsX12_takesNumber wsX12_isDigit := goodIn_r _ [7, 8, 9, 10, 6, 11, 2, 12, 13, 14, 15, 16, 17, 18, 19, 20, 21, 22, 23, 24, 25, 26, 27, 28, 29, 30, 31, 32, 33, 34, 35, 36, 37, 38, 39, 40, 41, 42, 43, 44, 45, 46, 47, 48, 49, 50, 51, 52, 53, 54, 55, 56, 57, 58, 59, 60, 61, 62, 63, 64, 65, 66, 67, 68, 69, 70, 71, 72, 73, 74, 75, 76, 77, 78, 79, 80] (by decide +kernel) (by decide +kernel)
set_option maxRecDepth 20000 in
theorem gX12_takesNumber_X12_isDigit : GoodIn wsX12_takesNumber (wsV RX12 225 RX12 yX12_isDigit wsX12_isDigit) := goodIn_app (goodIn_of _ (by decide +kernel)) ggX12_takesNumber_X12_isDigit
set_option maxRecDepth 20000 in
theorem ggX12_takesNumber_X12_next : GoodIn wsX12_takesNumber wsX12_next := goodIn_r _ [11, 2, 12, 13, 18, 19, 20, 21, 22, 23, 24, 25, 26, 27, 28, 29, 30, 31, 32, 33, 34, 35, 36, 37, 38, 39, 40, 41, 42, 43, 44, 45, 46, 47, 48, 49, 50, 51, 52, 53, 54, 55, 56, 57, 58, 59, 60, 61, 62, 63, 64, 65, 66, 67, 68, 69, 70, 71, 72, 73, 74, 75, 76, 77, 78, 79, 80] (by decide +kernel) (by decide +kernel)
set_option maxRecDepth 20000 in
theorem gX12_takesNumber_X12_next : GoodIn wsX12_takesNumber (wsV RX12 218 RX12 yX12_next wsX12_next) := goodIn_app (goodIn_of _ (by decide +kernel)) ggX12_takesNumber_X12_next
theorem dX12_takesNumber_0 : decode cX12_takesNumber 0 = .ok (.aload_n 0, 1) := by decide +kernel
theorem dX12_takesNumber_1 : decode cX12_takesNumber 1 = .ok (.invokevirtual 225, 3) := by decide +kernel
theorem dX12_takesNumber_4 : decode cX12_takesNumber 4 = .ok (.ifCond .ne 5, 3) := by decide +kernel
theorem dX12_takesNumber_7 : decode cX12_takesNumber 7 = .ok (.iconst 0, 1) := by decide +kernel
theorem dX12_takesNumber_8 : decode cX12_takesNumber 8 = .ok (.ireturn, 1) := by decide +kernel
theorem dX12_takesNumber_9 : decode cX12_takesNumber 9 = .ok (.aload_n 0, 1) := by decide +kernel
theorem dX12_takesNumber_10 : decode cX12_takesNumber 10 = .ok (.iconst 0, 1) := by decide +kernel
theorem dX12_takesNumber_11 : decode cX12_takesNumber 11 = .ok (.putfield 47, 3) := by decide +kernel
theorem dX12_takesNumber_14 : decode cX12_takesNumber 14 = .ok (.iconst 0, 1) := by decide +kernel
theorem dX12_takesNumber_15 : decode cX12_takesNumber 15 = .ok (.istore_n 1, 1) := by decide +kernel
theorem dX12_takesNumber_16 : decode cX12_takesNumber 16 = .ok (.iload_n 1, 1) := by decide +kernel
theorem dX12_takesNumber_17 : decode cX12_takesNumber 17 = .ok (.iconst 2, 1) := by decide +kernel
theorem dX12_takesNumber_18 : decode cX12_takesNumber 18 = .ok (.if_icmp .ge 45, 3) := by decide +kernel
theorem dX12_takesNumber_21 : decode cX12_takesNumber 21 = .ok (.aload_n 0, 1) := by decide +kernel
theorem dX12_takesNumber_22 : decode cX12_takesNumber 22 = .ok (.invokevirtual 225, 3) := by decide +kernel
theorem dX12_takesNumber_25 : decode cX12_takesNumber 25 = .ok (.ifCond .eq 38, 3) := by decide +kernel
theorem dX12_takesNumber_28 : decode cX12_takesNumber 28 = .ok (.aload_n 0, 1) := by decide +kernel
theorem dX12_takesNumber_29 : decode cX12_takesNumber 29 = .ok (.bipush 10, 2) := by decide +kernel
theorem dX12_takesNumber_31 : decode cX12_takesNumber 31 = .ok (.aload_n 0, 1) := by decide +kernel
theorem dX12_takesNumber_32 : decode cX12_takesNumber 32 = .ok (.getfield 47, 3) := by decide +kernel
theorem dX12_takesNumber_35 : decode cX12_takesNumber 35 = .ok (.imul, 1) := by decide +kernel
theorem dX12_takesNumber_36 : decode cX12_takesNumber 36 = .ok (.aload_n 0, 1) := by decide +kernel
theorem dX12_takesNumber_37 : decode cX12_takesNumber 37 = .ok (.invokevirtual 218, 3) := by decide +kernel
theorem dX12_takesNumber_40 : decode cX12_takesNumber 40 = .ok (.iadd, 1) := by decide +kernel
theorem dX12_takesNumber_41 : decode cX12_takesNumber 41 = .ok (.bipush 48, 2) := by decide +kernel
theorem dX12_takesNumber_43 : decode cX12_takesNumber 43 = .ok (.isub, 1) := by decide +kernel
theorem dX12_takesNumber_44 : decode cX12_takesNumber 44 = .ok (.putfield 47, 3) := by decide +kernel
theorem dX12_takesNumber_47 : decode cX12_takesNumber 47 = .ok (.aload_n 0, 1) := by decide +kernel
theorem dX12_takesNumber_48 : decode cX12_takesNumber 48 = .ok (.dup, 1) := by decide +kernel
theorem dX12_takesNumber_49 : decode cX12_takesNumber 49 = .ok (.getfield 44, 3) := by decide +kernel
theorem dX12_takesNumber_52 : decode cX12_takesNumber 52 = .ok (.iconst 1, 1) := by decide +kernel
theorem dX12_takesNumber_53 : decode cX12_takesNumber 53 = .ok (.iadd, 1) := by decide +kernel
theorem dX12_takesNumber_54 : decode cX12_takesNumber 54 = .ok (.putfield 44, 3) := by decide +kernel
theorem dX12_takesNumber_57 : decode cX12_takesNumber 57 = .ok (.iinc 1 1, 3) := by decide +kernel
theorem dX12_takesNumber_60 : decode cX12_takesNumber 60 = .ok (.goto (-44), 3) := by decide +kernel
theorem dX12_takesNumber_63 : decode cX12_takesNumber 63 = .ok (.iconst 1, 1) := by decide +kernel
theorem dX12_takesNumber_64 : decode cX12_takesNumber 64 = .ok (.ireturn, 1) := by decide +kernel
theorem dX12_emits_0 : decode cX12_emits 0 = .ok (.aload_n 0, 1) := by decide +kernel
theorem dX12_emits_1 : decode cX12_emits 1 = .ok (.getfield 68, 3) := by decide +kernel
theorem dX12_emits_4 : decode cX12_emits 4 = .ok (.aload_n 0, 1) := by decide +kernel
theorem dX12_emits_5 : decode cX12_emits 5 = .ok (.getfield 74, 3) := by decide +kernel
theorem dX12_emits_8 : decode cX12_emits 8 = .ok (.iload_n 1, 1) := by decide +kernel
theorem dX12_emits_9 : decode cX12_emits 9 = .ok (.iastore, 1) := by decide +kernel
theorem dX12_emits_10 : decode cX12_emits 10 = .ok (.aload_n 0, 1) := by decide +kernel
theorem dX12_emits_11 : decode cX12_emits 11 = .ok (.dup, 1) := by decide +kernel
theorem dX12_emits_12 : decode cX12_emits 12 = .ok (.getfield 74, 3) := by decide +kernel
theorem dX12_emits_15 : decode cX12_emits 15 = .ok (.iconst 1, 1) := by decide +kernel
theorem dX12_emits_16 : decode cX12_emits 16 = .ok (.iadd, 1) := by decide +kernel
theorem dX12_emits_17 : decode cX12_emits 17 = .ok (.putfield 74, 3) := by decide +kernel
theorem dX12_emits_20 : decode cX12_emits 20 = .ok (.return_, 1) := by decide +kernel
set_option maxRecDepth 20000 in
theorem ggX12_whole_X12_emits : GoodIn wsX12_whole wsX12_emits := goodIn_r _ [8, 9, 10, 11, 12, 13, 14, 15, 16, 17, 18, 19, 20, 21, 22, 23, 24, 25, 26, 27, 28, 29, 30, 31, 32, 33, 34, 35, 36, 37, 38, 39, 40, 41, 42, 43, 44, 45, 46, 47, 48, 49, 50, 51, 52, 53, 54, 55, 56, 57, 58, 59, 60, 61, 62, 63, 64, 65, 66, 67, 68, 69, 70, 71, 72, 73] (by decide +kernel) (by decide +kernel)
set_option maxRecDepth 20000 in
theorem gX12_whole_X12_emits : GoodIn wsX12_whole (wsV RX12 229 RX12 yX12_emits wsX12_emits) := goodIn_app (goodIn_of _ (by decide +kernel)) ggX12_whole_X12_emits
theorem dX12_whole_0 : decode cX12_whole 0 = .ok (.aload_n 0, 1) := by decide +kernel
theorem dX12_whole_1 : decode cX12_whole 1 = .ok (.getfield 77, 3) := by decide +kernel
theorem dX12_whole_4 : decode cX12_whole 4 = .ok (.ifCond .le 48, 3) := by decide +kernel
theorem dX12_whole_7 : decode cX12_whole 7 = .ok (.aload_n 0, 1) := by decide +kernel
theorem dX12_whole_8 : decode cX12_whole 8 = .ok (.getfield 71, 3) := by decide +kernel
theorem dX12_whole_11 : decode cX12_whole 11 = .ok (.aload_n 0, 1) := by decide +kernel
theorem dX12_whole_12 : decode cX12_whole 12 = .ok (.getfield 77, 3) := by decide +kernel
theorem dX12_whole_15 : decode cX12_whole 15 = .ok (.iconst 1, 1) := by decide +kernel
theorem dX12_whole_16 : decode cX12_whole 16 = .ok (.isub, 1) := by decide +kernel
theorem dX12_whole_17 : decode cX12_whole 17 = .ok (.iaload, 1) := by decide +kernel
theorem dX12_whole_18 : decode cX12_whole 18 = .ok (.bipush 33, 2) := by decide +kernel
theorem dX12_whole_20 : decode cX12_whole 20 = .ok (.if_icmp .ne 32, 3) := by decide +kernel
theorem dX12_whole_23 : decode cX12_whole 23 = .ok (.aload_n 0, 1) := by decide +kernel
theorem dX12_whole_24 : decode cX12_whole 24 = .ok (.bipush (-33), 2) := by decide +kernel
theorem dX12_whole_26 : decode cX12_whole 26 = .ok (.invokevirtual 229, 3) := by decide +kernel
theorem dX12_whole_29 : decode cX12_whole 29 = .ok (.aload_n 0, 1) := by decide +kernel
theorem dX12_whole_30 : decode cX12_whole 30 = .ok (.dup, 1) := by decide +kernel
theorem dX12_whole_31 : decode cX12_whole 31 = .ok (.getfield 77, 3) := by decide +kernel
theorem dX12_whole_34 : decode cX12_whole 34 = .ok (.iconst 1, 1) := by decide +kernel
theorem dX12_whole_35 : decode cX12_whole 35 = .ok (.isub, 1) := by decide +kernel
theorem dX12_whole_36 : decode cX12_whole 36 = .ok (.putfield 77, 3) := by decide +kernel
theorem dX12_whole_39 : decode cX12_whole 39 = .ok (.aload_n 0, 1) := by decide +kernel
theorem dX12_whole_40 : decode cX12_whole 40 = .ok (.dup, 1) := by decide +kernel
theorem dX12_whole_41 : decode cX12_whole 41 = .ok (.getfield 80, 3) := by decide +kernel
theorem dX12_whole_44 : decode cX12_whole 44 = .ok (.iconst 1, 1) := by decide +kernel
theorem dX12_whole_45 : decode cX12_whole 45 = .ok (.isub, 1) := by decide +kernel
theorem dX12_whole_46 : decode cX12_whole 46 = .ok (.putfield 80, 3) := by decide +kernel
theorem dX12_whole_49 : decode cX12_whole 49 = .ok (.goto (-49), 3) := by decide +kernel
theorem dX12_whole_52 : decode cX12_whole 52 = .ok (.return_, 1) := by decide +kernel
set_option maxRecDepth 20000 in
theorem ggX12_settle_X12_emits : GoodIn wsX12_settle wsX12_emits := goodIn_r _ [7, 8, 9, 10, 11, 12, 13, 14, 15, 16, 17, 18, 19, 20, 21, 22, 23, 24, 25, 26, 27, 28, 29, 30, 31, 32, 33, 34, 35, 36, 37, 38, 39, 40, 41, 42, 43, 44, 45, 46, 47, 48, 49, 50, 51, 52, 53, 54, 55, 56, 57, 58, 59, 60, 61, 62, 63, 64, 65, 66, 67, 68, 69, 70, 71, 72] (by decide +kernel) (by decide +kernel)
set_option maxRecDepth 20000 in
theorem gX12_settle_X12_emits : GoodIn wsX12_settle (wsV RX12 229 RX12 yX12_emits wsX12_emits) := goodIn_app (goodIn_of _ (by decide +kernel)) ggX12_settle_X12_emits
theorem dX12_settle_0 : decode cX12_settle 0 = .ok (.aload_n 0, 1) := by decide +kernel
theorem dX12_settle_1 : decode cX12_settle 1 = .ok (.getfield 77, 3) := by decide +kernel
theorem dX12_settle_4 : decode cX12_settle 4 = .ok (.ifCond .le 68, 3) := by decide +kernel
theorem dX12_settle_7 : decode cX12_settle 7 = .ok (.aload_n 0, 1) := by decide +kernel
theorem dX12_settle_8 : decode cX12_settle 8 = .ok (.getfield 71, 3) := by decide +kernel
theorem dX12_settle_11 : decode cX12_settle 11 = .ok (.aload_n 0, 1) := by decide +kernel
theorem dX12_settle_12 : decode cX12_settle 12 = .ok (.getfield 77, 3) := by decide +kernel
theorem dX12_settle_15 : decode cX12_settle 15 = .ok (.iconst 1, 1) := by decide +kernel
theorem dX12_settle_16 : decode cX12_settle 16 = .ok (.isub, 1) := by decide +kernel
theorem dX12_settle_17 : decode cX12_settle 17 = .ok (.iaload, 1) := by decide +kernel
theorem dX12_settle_18 : decode cX12_settle 18 = .ok (.bipush 38, 2) := by decide +kernel
theorem dX12_settle_20 : decode cX12_settle 20 = .ok (.if_icmp .eq 25, 3) := by decide +kernel
theorem dX12_settle_23 : decode cX12_settle 23 = .ok (.aload_n 0, 1) := by decide +kernel
theorem dX12_settle_24 : decode cX12_settle 24 = .ok (.getfield 71, 3) := by decide +kernel
theorem dX12_settle_27 : decode cX12_settle 27 = .ok (.aload_n 0, 1) := by decide +kernel
theorem dX12_settle_28 : decode cX12_settle 28 = .ok (.getfield 77, 3) := by decide +kernel
theorem dX12_settle_31 : decode cX12_settle 31 = .ok (.iconst 1, 1) := by decide +kernel
theorem dX12_settle_32 : decode cX12_settle 32 = .ok (.isub, 1) := by decide +kernel
theorem dX12_settle_33 : decode cX12_settle 33 = .ok (.iaload, 1) := by decide +kernel
theorem dX12_settle_34 : decode cX12_settle 34 = .ok (.bipush 124, 2) := by decide +kernel
theorem dX12_settle_36 : decode cX12_settle 36 = .ok (.if_icmp .ne 36, 3) := by decide +kernel
theorem dX12_settle_39 : decode cX12_settle 39 = .ok (.iload_n 1, 1) := by decide +kernel
theorem dX12_settle_40 : decode cX12_settle 40 = .ok (.bipush 38, 2) := by decide +kernel
theorem dX12_settle_42 : decode cX12_settle 42 = .ok (.if_icmp .eq 30, 3) := by decide +kernel
theorem dX12_settle_45 : decode cX12_settle 45 = .ok (.aload_n 0, 1) := by decide +kernel
theorem dX12_settle_46 : decode cX12_settle 46 = .ok (.dup, 1) := by decide +kernel
theorem dX12_settle_47 : decode cX12_settle 47 = .ok (.getfield 77, 3) := by decide +kernel
theorem dX12_settle_50 : decode cX12_settle 50 = .ok (.iconst 1, 1) := by decide +kernel
theorem dX12_settle_51 : decode cX12_settle 51 = .ok (.isub, 1) := by decide +kernel
theorem dX12_settle_52 : decode cX12_settle 52 = .ok (.putfield 77, 3) := by decide +kernel
theorem dX12_settle_55 : decode cX12_settle 55 = .ok (.aload_n 0, 1) := by decide +kernel
theorem dX12_settle_56 : decode cX12_settle 56 = .ok (.aload_n 0, 1) := by decide +kernel
theorem dX12_settle_57 : decode cX12_settle 57 = .ok (.getfield 71, 3) := by decide +kernel
theorem dX12_settle_60 : decode cX12_settle 60 = .ok (.aload_n 0, 1) := by decide +kernel
theorem dX12_settle_61 : decode cX12_settle 61 = .ok (.getfield 77, 3) := by decide +kernel
theorem dX12_settle_64 : decode cX12_settle 64 = .ok (.iaload, 1) := by decide +kernel
theorem dX12_settle_65 : decode cX12_settle 65 = .ok (.ineg, 1) := by decide +kernel
theorem dX12_settle_66 : decode cX12_settle 66 = .ok (.invokevirtual 229, 3) := by decide +kernel
theorem dX12_settle_69 : decode cX12_settle 69 = .ok (.goto (-69), 3) := by decide +kernel
theorem dX12_settle_72 : decode cX12_settle 72 = .ok (.return_, 1) := by decide +kernel
theorem dX12_place_0 : decode cX12_place 0 = .ok (.iload_n 1, 1) := by decide +kernel
theorem dX12_place_1 : decode cX12_place 1 = .ok (.lookupswitch 71 #[(99, 67), (100, 69), (105, 59), (107, 61), (118, 63), (121, 65)], 59) := by decide +kernel
theorem dX12_place_60 : decode cX12_place 60 = .ok (.iconst 0, 1) := by decide +kernel
theorem dX12_place_61 : decode cX12_place 61 = .ok (.ireturn, 1) := by decide +kernel
theorem dX12_place_62 : decode cX12_place 62 = .ok (.iconst 1, 1) := by decide +kernel
theorem dX12_place_63 : decode cX12_place 63 = .ok (.ireturn, 1) := by decide +kernel
theorem dX12_place_64 : decode cX12_place 64 = .ok (.iconst 2, 1) := by decide +kernel
theorem dX12_place_65 : decode cX12_place 65 = .ok (.ireturn, 1) := by decide +kernel
theorem dX12_place_66 : decode cX12_place 66 = .ok (.iconst 3, 1) := by decide +kernel
theorem dX12_place_67 : decode cX12_place 67 = .ok (.ireturn, 1) := by decide +kernel
theorem dX12_place_68 : decode cX12_place 68 = .ok (.iconst 4, 1) := by decide +kernel
theorem dX12_place_69 : decode cX12_place 69 = .ok (.ireturn, 1) := by decide +kernel
theorem dX12_place_70 : decode cX12_place 70 = .ok (.iconst 5, 1) := by decide +kernel
theorem dX12_place_71 : decode cX12_place 71 = .ok (.ireturn, 1) := by decide +kernel
theorem dX12_place_72 : decode cX12_place 72 = .ok (.iconst (-1), 1) := by decide +kernel
theorem dX12_place_73 : decode cX12_place 73 = .ok (.ireturn, 1) := by decide +kernel
set_option maxRecDepth 20000 in
theorem ggX12_takesTest_X12_next : GoodIn wsX12_takesTest wsX12_next := goodIn_r _ [7, 1, 8, 9, 39, 40, 41, 42, 43, 44, 45, 46, 47, 48, 49, 50, 51, 52, 53, 54, 55, 56, 57, 58, 59, 60, 61, 62, 63, 64, 65, 66, 67, 68, 69, 70, 71, 72, 73, 74, 75, 76, 77, 78, 79, 80, 81, 82, 83, 84, 85, 86, 87, 88, 89, 90, 91, 92, 93, 94, 95, 96, 97, 98, 99, 100, 101] (by decide +kernel) (by decide +kernel)
set_option maxRecDepth 20000 in
theorem gX12_takesTest_X12_next : GoodIn wsX12_takesTest (wsV RX12 218 RX12 yX12_next wsX12_next) := goodIn_app (goodIn_of _ (by decide +kernel)) ggX12_takesTest_X12_next
set_option maxRecDepth 20000 in
theorem ggX12_takesTest_X12_place : GoodIn wsX12_takesTest wsX12_place := goodIn_r _ [13] (by decide +kernel) (by decide +kernel)
set_option maxRecDepth 20000 in
theorem gX12_takesTest_X12_place : GoodIn wsX12_takesTest (wsV RX12 233 RX12 yX12_place wsX12_place) := goodIn_app (goodIn_of _ (by decide +kernel)) ggX12_takesTest_X12_place
set_option maxRecDepth 20000 in
theorem ggX12_takesTest_X12_in : GoodIn wsX12_takesTest wsX12_in := goodIn_r _ [17] (by decide +kernel) (by decide +kernel)
set_option maxRecDepth 20000 in
theorem gX12_takesTest_X12_in : GoodIn wsX12_takesTest (wsV RX12 207 RX12 yX12_in wsX12_in) := goodIn_app (goodIn_of _ (by decide +kernel)) ggX12_takesTest_X12_in
set_option maxRecDepth 20000 in
theorem ggX12_takesTest_X12_takesNumber : GoodIn wsX12_takesTest wsX12_takesNumber := goodIn_r _ [21, 2, 1, 22, 23, 24, 6, 25, 3, 4, 5, 7, 8, 9, 14, 15, 16, 17, 39, 40, 41, 42, 43, 44, 45, 46, 47, 48, 49, 50, 51, 52, 53, 54, 55, 56, 57, 58, 59, 60, 61, 62, 63, 64, 65, 66, 67, 68, 69, 70, 71, 72, 73, 74, 75, 76, 77, 78, 79, 80, 81, 82, 83, 84, 85, 86, 87, 88, 89, 90, 91, 92, 93, 94, 95, 96, 97, 98, 99, 100, 101] (by decide +kernel) (by decide +kernel)
set_option maxRecDepth 20000 in
theorem gX12_takesTest_X12_takesNumber : GoodIn wsX12_takesTest (wsV RX12 237 RX12 yX12_takesNumber wsX12_takesNumber) := goodIn_app (goodIn_of _ (by decide +kernel)) ggX12_takesTest_X12_takesNumber
set_option maxRecDepth 20000 in
theorem ggX12_takesTest_X12_emits : GoodIn wsX12_takesTest wsX12_emits := goodIn_r _ [29, 30, 31, 39, 40, 41, 42, 43, 44, 45, 46, 47, 48, 49, 50, 51, 52, 53, 54, 55, 56, 57, 58, 59, 60, 61, 62, 63, 64, 65, 66, 67, 68, 69, 70, 71, 72, 73, 74, 75, 76, 77, 78, 79, 80, 81, 82, 83, 84, 85, 86, 87, 88, 89, 90, 91, 92, 93, 94, 95, 96, 97, 98, 99, 100, 101] (by decide +kernel) (by decide +kernel)
set_option maxRecDepth 20000 in
theorem gX12_takesTest_X12_emits : GoodIn wsX12_takesTest (wsV RX12 229 RX12 yX12_emits wsX12_emits) := goodIn_app (goodIn_of _ (by decide +kernel)) ggX12_takesTest_X12_emits
set_option maxRecDepth 20000 in
theorem ggX12_takesTest_X12_whole : GoodIn wsX12_takesTest wsX12_whole := goodIn_r _ [35, 36, 37, 38, 26, 27, 28, 6, 29, 30, 31, 39, 40, 41, 42, 43, 44, 45, 46, 47, 48, 49, 50, 51, 52, 53, 54, 55, 56, 57, 58, 59, 60, 61, 62, 63, 64, 65, 66, 67, 68, 69, 70, 71, 72, 73, 74, 75, 76, 77, 78, 79, 80, 81, 82, 83, 84, 85, 86, 87, 88, 89, 90, 91, 92, 93, 94, 95, 96, 97, 98, 99, 100, 101] (by decide +kernel) (by decide +kernel)
set_option maxRecDepth 20000 in
theorem gX12_takesTest_X12_whole : GoodIn wsX12_takesTest (wsV RX12 240 RX12 yX12_whole wsX12_whole) := goodIn_app (goodIn_of _ (by decide +kernel)) ggX12_takesTest_X12_whole
theorem dX12_takesTest_0 : decode cX12_takesTest 0 = .ok (.aload_n 0, 1) := by decide +kernel
theorem dX12_takesTest_1 : decode cX12_takesTest 1 = .ok (.aload_n 0, 1) := by decide +kernel
theorem dX12_takesTest_2 : decode cX12_takesTest 2 = .ok (.invokevirtual 218, 3) := by decide +kernel
theorem dX12_takesTest_5 : decode cX12_takesTest 5 = .ok (.invokevirtual 233, 3) := by decide +kernel
theorem dX12_takesTest_8 : decode cX12_takesTest 8 = .ok (.istore_n 1, 1) := by decide +kernel
theorem dX12_takesTest_9 : decode cX12_takesTest 9 = .ok (.iload_n 1, 1) := by decide +kernel
theorem dX12_takesTest_10 : decode cX12_takesTest 10 = .ok (.ifCond .ge 5, 3) := by decide +kernel
theorem dX12_takesTest_13 : decode cX12_takesTest 13 = .ok (.iconst 0, 1) := by decide +kernel
theorem dX12_takesTest_14 : decode cX12_takesTest 14 = .ok (.ireturn, 1) := by decide +kernel
theorem dX12_takesTest_15 : decode cX12_takesTest 15 = .ok (.aload_n 0, 1) := by decide +kernel
theorem dX12_takesTest_16 : decode cX12_takesTest 16 = .ok (.dup, 1) := by decide +kernel
theorem dX12_takesTest_17 : decode cX12_takesTest 17 = .ok (.getfield 44, 3) := by decide +kernel
theorem dX12_takesTest_20 : decode cX12_takesTest 20 = .ok (.iconst 1, 1) := by decide +kernel
theorem dX12_takesTest_21 : decode cX12_takesTest 21 = .ok (.iadd, 1) := by decide +kernel
theorem dX12_takesTest_22 : decode cX12_takesTest 22 = .ok (.putfield 44, 3) := by decide +kernel
theorem dX12_takesTest_25 : decode cX12_takesTest 25 = .ok (.aload_n 0, 1) := by decide +kernel
theorem dX12_takesTest_26 : decode cX12_takesTest 26 = .ok (.invokevirtual 218, 3) := by decide +kernel
theorem dX12_takesTest_29 : decode cX12_takesTest 29 = .ok (.istore_n 2, 1) := by decide +kernel
theorem dX12_takesTest_30 : decode cX12_takesTest 30 = .ok (.aload_n 0, 1) := by decide +kernel
theorem dX12_takesTest_31 : decode cX12_takesTest 31 = .ok (.iload_n 2, 1) := by decide +kernel
theorem dX12_takesTest_32 : decode cX12_takesTest 32 = .ok (.bipush 60, 2) := by decide +kernel
theorem dX12_takesTest_34 : decode cX12_takesTest 34 = .ok (.bipush 62, 2) := by decide +kernel
theorem dX12_takesTest_36 : decode cX12_takesTest 36 = .ok (.invokevirtual 207, 3) := by decide +kernel
theorem dX12_takesTest_39 : decode cX12_takesTest 39 = .ok (.ifCond .ne 5, 3) := by decide +kernel
theorem dX12_takesTest_42 : decode cX12_takesTest 42 = .ok (.iconst 0, 1) := by decide +kernel
theorem dX12_takesTest_43 : decode cX12_takesTest 43 = .ok (.ireturn, 1) := by decide +kernel
theorem dX12_takesTest_44 : decode cX12_takesTest 44 = .ok (.aload_n 0, 1) := by decide +kernel
theorem dX12_takesTest_45 : decode cX12_takesTest 45 = .ok (.dup, 1) := by decide +kernel
theorem dX12_takesTest_46 : decode cX12_takesTest 46 = .ok (.getfield 44, 3) := by decide +kernel
theorem dX12_takesTest_49 : decode cX12_takesTest 49 = .ok (.iconst 1, 1) := by decide +kernel
theorem dX12_takesTest_50 : decode cX12_takesTest 50 = .ok (.iadd, 1) := by decide +kernel
theorem dX12_takesTest_51 : decode cX12_takesTest 51 = .ok (.putfield 44, 3) := by decide +kernel
theorem dX12_takesTest_54 : decode cX12_takesTest 54 = .ok (.aload_n 0, 1) := by decide +kernel
theorem dX12_takesTest_55 : decode cX12_takesTest 55 = .ok (.invokevirtual 237, 3) := by decide +kernel
theorem dX12_takesTest_58 : decode cX12_takesTest 58 = .ok (.ifCond .ne 5, 3) := by decide +kernel
theorem dX12_takesTest_61 : decode cX12_takesTest 61 = .ok (.iconst 0, 1) := by decide +kernel
theorem dX12_takesTest_62 : decode cX12_takesTest 62 = .ok (.ireturn, 1) := by decide +kernel
theorem dX12_takesTest_63 : decode cX12_takesTest 63 = .ok (.aload_n 0, 1) := by decide +kernel
theorem dX12_takesTest_64 : decode cX12_takesTest 64 = .ok (.sipush 1000, 3) := by decide +kernel
theorem dX12_takesTest_67 : decode cX12_takesTest 67 = .ok (.iload_n 1, 1) := by decide +kernel
theorem dX12_takesTest_68 : decode cX12_takesTest 68 = .ok (.imul, 1) := by decide +kernel
theorem dX12_takesTest_69 : decode cX12_takesTest 69 = .ok (.bipush 100, 2) := by decide +kernel
theorem dX12_takesTest_71 : decode cX12_takesTest 71 = .ok (.iload_n 2, 1) := by decide +kernel
theorem dX12_takesTest_72 : decode cX12_takesTest 72 = .ok (.bipush 60, 2) := by decide +kernel
theorem dX12_takesTest_74 : decode cX12_takesTest 74 = .ok (.isub, 1) := by decide +kernel
theorem dX12_takesTest_75 : decode cX12_takesTest 75 = .ok (.imul, 1) := by decide +kernel
theorem dX12_takesTest_76 : decode cX12_takesTest 76 = .ok (.iadd, 1) := by decide +kernel
theorem dX12_takesTest_77 : decode cX12_takesTest 77 = .ok (.aload_n 0, 1) := by decide +kernel
theorem dX12_takesTest_78 : decode cX12_takesTest 78 = .ok (.getfield 47, 3) := by decide +kernel
theorem dX12_takesTest_81 : decode cX12_takesTest 81 = .ok (.iadd, 1) := by decide +kernel
theorem dX12_takesTest_82 : decode cX12_takesTest 82 = .ok (.invokevirtual 229, 3) := by decide +kernel
theorem dX12_takesTest_85 : decode cX12_takesTest 85 = .ok (.aload_n 0, 1) := by decide +kernel
theorem dX12_takesTest_86 : decode cX12_takesTest 86 = .ok (.invokevirtual 240, 3) := by decide +kernel
theorem dX12_takesTest_89 : decode cX12_takesTest 89 = .ok (.iconst 1, 1) := by decide +kernel
theorem dX12_takesTest_90 : decode cX12_takesTest 90 = .ok (.ireturn, 1) := by decide +kernel
set_option maxRecDepth 20000 in
theorem ggX12_takesE_X12_next : GoodIn wsX12_takesE wsX12_next := goodIn_r _ [12, 6, 13, 14, 49, 50, 51, 52, 53, 54, 55, 56, 57, 58, 59, 60, 61, 62, 63, 64, 65, 66, 67, 68, 69, 70, 71, 72, 73, 74, 75, 76, 77, 78, 79, 80, 81, 82, 83, 84, 85, 86, 87, 88, 89, 90, 91, 92, 93, 94, 95, 96, 97, 98, 99, 100, 101, 102, 103, 104, 105, 106, 107, 108, 109, 110, 111] (by decide +kernel) (by decide +kernel)
set_option maxRecDepth 20000 in
theorem gX12_takesE_X12_next : GoodIn wsX12_takesE (wsV RX12 218 RX12 yX12_next wsX12_next) := goodIn_app (goodIn_of _ (by decide +kernel)) ggX12_takesE_X12_next
set_option maxRecDepth 20000 in
theorem ggX12_takesE_X12_takesTest : GoodIn wsX12_takesE wsX12_takesTest := goodIn_r _ [18, 6, 19, 8, 9, 10, 11, 12, 13, 14, 20, 21, 22, 23, 24, 25, 26, 27, 28, 29, 30, 31, 32, 33, 34, 35, 36, 37, 38, 39, 40, 4, 41, 42, 43, 44, 1, 5, 2, 49, 50, 51, 52, 53, 54, 55, 56, 57, 58, 59, 60, 61, 62, 63, 64, 65, 66, 67, 68, 69, 70, 71, 72, 73, 74, 75, 76, 77, 78, 79, 80, 81, 82, 83, 84, 85, 86, 87, 88, 89, 90, 91, 92, 93, 94, 95, 96, 97, 98, 99, 100, 101, 102, 103, 104, 105, 106, 107, 108, 109, 110, 111] (by decide +kernel) (by decide +kernel)
set_option maxRecDepth 20000 in
theorem gX12_takesE_X12_takesTest : GoodIn wsX12_takesE (wsV RX12 243 RX12 yX12_takesTest wsX12_takesTest) := goodIn_app (goodIn_of _ (by decide +kernel)) ggX12_takesE_X12_takesTest
set_option maxRecDepth 20000 in
theorem ggX12_takesE_X12_settle : GoodIn wsX12_takesE wsX12_settle := goodIn_r _ [48, 1, 5, 36, 37, 38, 11, 39, 40, 4, 49, 50, 51, 52, 53, 54, 55, 56, 57, 58, 59, 60, 61, 62, 63, 64, 65, 66, 67, 68, 69, 70, 71, 72, 73, 74, 75, 76, 77, 78, 79, 80, 81, 82, 83, 84, 85, 86, 87, 88, 89, 90, 91, 92, 93, 94, 95, 96, 97, 98, 99, 100, 101, 102, 103, 104, 105, 106, 107, 108, 109, 110, 111] (by decide +kernel) (by decide +kernel)
set_option maxRecDepth 20000 in
theorem gX12_takesE_X12_settle : GoodIn wsX12_takesE (wsV RX12 246 RX12 yX12_settle wsX12_settle) := goodIn_app (goodIn_of _ (by decide +kernel)) ggX12_takesE_X12_settle
set_option maxRecDepth 20000 in
theorem ggX12_takesE_X12_whole : GoodIn wsX12_takesE wsX12_whole := goodIn_r _ [44, 1, 5, 2, 36, 37, 38, 11, 39, 40, 4, 49, 50, 51, 52, 53, 54, 55, 56, 57, 58, 59, 60, 61, 62, 63, 64, 65, 66, 67, 68, 69, 70, 71, 72, 73, 74, 75, 76, 77, 78, 79, 80, 81, 82, 83, 84, 85, 86, 87, 88, 89, 90, 91, 92, 93, 94, 95, 96, 97, 98, 99, 100, 101, 102, 103, 104, 105, 106, 107, 108, 109, 110, 111] (by decide +kernel) (by decide +kernel)
set_option maxRecDepth 20000 in
theorem gX12_takesE_X12_whole : GoodIn wsX12_takesE (wsV RX12 240 RX12 yX12_whole wsX12_whole) := goodIn_app (goodIn_of _ (by decide +kernel)) ggX12_takesE_X12_whole
theorem dX12_takesE_0 : decode cX12_takesE 0 = .ok (.aload_n 0, 1) := by decide +kernel
theorem dX12_takesE_1 : decode cX12_takesE 1 = .ok (.iconst 0, 1) := by decide +kernel
theorem dX12_takesE_2 : decode cX12_takesE 2 = .ok (.putfield 77, 3) := by decide +kernel
theorem dX12_takesE_5 : decode cX12_takesE 5 = .ok (.aload_n 0, 1) := by decide +kernel
theorem dX12_takesE_6 : decode cX12_takesE 6 = .ok (.iconst 0, 1) := by decide +kernel
theorem dX12_takesE_7 : decode cX12_takesE 7 = .ok (.putfield 80, 3) := by decide +kernel
theorem dX12_takesE_10 : decode cX12_takesE 10 = .ok (.aload_n 0, 1) := by decide +kernel
theorem dX12_takesE_11 : decode cX12_takesE 11 = .ok (.getfield 62, 3) := by decide +kernel
theorem dX12_takesE_14 : decode cX12_takesE 14 = .ok (.iload_n 1, 1) := by decide +kernel
theorem dX12_takesE_15 : decode cX12_takesE 15 = .ok (.aload_n 0, 1) := by decide +kernel
theorem dX12_takesE_16 : decode cX12_takesE 16 = .ok (.getfield 74, 3) := by decide +kernel
theorem dX12_takesE_19 : decode cX12_takesE 19 = .ok (.iastore, 1) := by decide +kernel
theorem dX12_takesE_20 : decode cX12_takesE 20 = .ok (.iconst 1, 1) := by decide +kernel
theorem dX12_takesE_21 : decode cX12_takesE 21 = .ok (.istore_n 2, 1) := by decide +kernel
theorem dX12_takesE_22 : decode cX12_takesE 22 = .ok (.aload_n 0, 1) := by decide +kernel
theorem dX12_takesE_23 : decode cX12_takesE 23 = .ok (.invokevirtual 218, 3) := by decide +kernel
theorem dX12_takesE_26 : decode cX12_takesE 26 = .ok (.istore_n 3, 1) := by decide +kernel
theorem dX12_takesE_27 : decode cX12_takesE 27 = .ok (.iload_n 2, 1) := by decide +kernel
theorem dX12_takesE_28 : decode cX12_takesE 28 = .ok (.ifCond .eq 82, 3) := by decide +kernel
theorem dX12_takesE_31 : decode cX12_takesE 31 = .ok (.iload_n 3, 1) := by decide +kernel
theorem dX12_takesE_32 : decode cX12_takesE 32 = .ok (.bipush 33, 2) := by decide +kernel
theorem dX12_takesE_34 : decode cX12_takesE 34 = .ok (.if_icmp .eq 9, 3) := by decide +kernel
theorem dX12_takesE_37 : decode cX12_takesE 37 = .ok (.iload_n 3, 1) := by decide +kernel
theorem dX12_takesE_38 : decode cX12_takesE 38 = .ok (.bipush 40, 2) := by decide +kernel
theorem dX12_takesE_40 : decode cX12_takesE 40 = .ok (.if_icmp .ne 56, 3) := by decide +kernel
theorem dX12_takesE_43 : decode cX12_takesE 43 = .ok (.aload_n 0, 1) := by decide +kernel
theorem dX12_takesE_44 : decode cX12_takesE 44 = .ok (.getfield 80, 3) := by decide +kernel
theorem dX12_takesE_47 : decode cX12_takesE 47 = .ok (.iconst 4, 1) := by decide +kernel
theorem dX12_takesE_48 : decode cX12_takesE 48 = .ok (.if_icmp .ne 5, 3) := by decide +kernel
theorem dX12_takesE_51 : decode cX12_takesE 51 = .ok (.iconst 0, 1) := by decide +kernel
theorem dX12_takesE_52 : decode cX12_takesE 52 = .ok (.ireturn, 1) := by decide +kernel
theorem dX12_takesE_53 : decode cX12_takesE 53 = .ok (.aload_n 0, 1) := by decide +kernel
theorem dX12_takesE_54 : decode cX12_takesE 54 = .ok (.dup, 1) := by decide +kernel
theorem dX12_takesE_55 : decode cX12_takesE 55 = .ok (.getfield 80, 3) := by decide +kernel
theorem dX12_takesE_58 : decode cX12_takesE 58 = .ok (.iconst 1, 1) := by decide +kernel
theorem dX12_takesE_59 : decode cX12_takesE 59 = .ok (.iadd, 1) := by decide +kernel
theorem dX12_takesE_60 : decode cX12_takesE 60 = .ok (.putfield 80, 3) := by decide +kernel
theorem dX12_takesE_63 : decode cX12_takesE 63 = .ok (.aload_n 0, 1) := by decide +kernel
theorem dX12_takesE_64 : decode cX12_takesE 64 = .ok (.getfield 71, 3) := by decide +kernel
theorem dX12_takesE_67 : decode cX12_takesE 67 = .ok (.aload_n 0, 1) := by decide +kernel
theorem dX12_takesE_68 : decode cX12_takesE 68 = .ok (.getfield 77, 3) := by decide +kernel
theorem dX12_takesE_71 : decode cX12_takesE 71 = .ok (.iload_n 3, 1) := by decide +kernel
theorem dX12_takesE_72 : decode cX12_takesE 72 = .ok (.iastore, 1) := by decide +kernel
theorem dX12_takesE_73 : decode cX12_takesE 73 = .ok (.aload_n 0, 1) := by decide +kernel
theorem dX12_takesE_74 : decode cX12_takesE 74 = .ok (.dup, 1) := by decide +kernel
theorem dX12_takesE_75 : decode cX12_takesE 75 = .ok (.getfield 77, 3) := by decide +kernel
theorem dX12_takesE_78 : decode cX12_takesE 78 = .ok (.iconst 1, 1) := by decide +kernel
theorem dX12_takesE_79 : decode cX12_takesE 79 = .ok (.iadd, 1) := by decide +kernel
theorem dX12_takesE_80 : decode cX12_takesE 80 = .ok (.putfield 77, 3) := by decide +kernel
theorem dX12_takesE_83 : decode cX12_takesE 83 = .ok (.aload_n 0, 1) := by decide +kernel
theorem dX12_takesE_84 : decode cX12_takesE 84 = .ok (.dup, 1) := by decide +kernel
theorem dX12_takesE_85 : decode cX12_takesE 85 = .ok (.getfield 44, 3) := by decide +kernel
theorem dX12_takesE_88 : decode cX12_takesE 88 = .ok (.iconst 1, 1) := by decide +kernel
theorem dX12_takesE_89 : decode cX12_takesE 89 = .ok (.iadd, 1) := by decide +kernel
theorem dX12_takesE_90 : decode cX12_takesE 90 = .ok (.putfield 44, 3) := by decide +kernel
theorem dX12_takesE_93 : decode cX12_takesE 93 = .ok (.goto (-71), 3) := by decide +kernel
theorem dX12_takesE_96 : decode cX12_takesE 96 = .ok (.aload_n 0, 1) := by decide +kernel
theorem dX12_takesE_97 : decode cX12_takesE 97 = .ok (.invokevirtual 243, 3) := by decide +kernel
theorem dX12_takesE_100 : decode cX12_takesE 100 = .ok (.ifCond .eq 8, 3) := by decide +kernel
theorem dX12_takesE_103 : decode cX12_takesE 103 = .ok (.iconst 0, 1) := by decide +kernel
theorem dX12_takesE_104 : decode cX12_takesE 104 = .ok (.istore_n 2, 1) := by decide +kernel
theorem dX12_takesE_105 : decode cX12_takesE 105 = .ok (.goto (-83), 3) := by decide +kernel
theorem dX12_takesE_108 : decode cX12_takesE 108 = .ok (.iconst 0, 1) := by decide +kernel
theorem dX12_takesE_109 : decode cX12_takesE 109 = .ok (.ireturn, 1) := by decide +kernel
theorem dX12_takesE_110 : decode cX12_takesE 110 = .ok (.iload_n 3, 1) := by decide +kernel
theorem dX12_takesE_111 : decode cX12_takesE 111 = .ok (.bipush 38, 2) := by decide +kernel
theorem dX12_takesE_113 : decode cX12_takesE 113 = .ok (.if_icmp .eq 9, 3) := by decide +kernel
theorem dX12_takesE_116 : decode cX12_takesE 116 = .ok (.iload_n 3, 1) := by decide +kernel
theorem dX12_takesE_117 : decode cX12_takesE 117 = .ok (.bipush 124, 2) := by decide +kernel
theorem dX12_takesE_119 : decode cX12_takesE 119 = .ok (.if_icmp .ne 43, 3) := by decide +kernel
theorem dX12_takesE_122 : decode cX12_takesE 122 = .ok (.aload_n 0, 1) := by decide +kernel
theorem dX12_takesE_123 : decode cX12_takesE 123 = .ok (.iload_n 3, 1) := by decide +kernel
theorem dX12_takesE_124 : decode cX12_takesE 124 = .ok (.invokevirtual 246, 3) := by decide +kernel
theorem dX12_takesE_127 : decode cX12_takesE 127 = .ok (.aload_n 0, 1) := by decide +kernel
theorem dX12_takesE_128 : decode cX12_takesE 128 = .ok (.getfield 71, 3) := by decide +kernel
theorem dX12_takesE_131 : decode cX12_takesE 131 = .ok (.aload_n 0, 1) := by decide +kernel
theorem dX12_takesE_132 : decode cX12_takesE 132 = .ok (.getfield 77, 3) := by decide +kernel
theorem dX12_takesE_135 : decode cX12_takesE 135 = .ok (.iload_n 3, 1) := by decide +kernel
theorem dX12_takesE_136 : decode cX12_takesE 136 = .ok (.iastore, 1) := by decide +kernel
theorem dX12_takesE_137 : decode cX12_takesE 137 = .ok (.aload_n 0, 1) := by decide +kernel
theorem dX12_takesE_138 : decode cX12_takesE 138 = .ok (.dup, 1) := by decide +kernel
theorem dX12_takesE_139 : decode cX12_takesE 139 = .ok (.getfield 77, 3) := by decide +kernel
theorem dX12_takesE_142 : decode cX12_takesE 142 = .ok (.iconst 1, 1) := by decide +kernel
theorem dX12_takesE_143 : decode cX12_takesE 143 = .ok (.iadd, 1) := by decide +kernel
theorem dX12_takesE_144 : decode cX12_takesE 144 = .ok (.putfield 77, 3) := by decide +kernel
theorem dX12_takesE_147 : decode cX12_takesE 147 = .ok (.iconst 1, 1) := by decide +kernel
theorem dX12_takesE_148 : decode cX12_takesE 148 = .ok (.istore_n 2, 1) := by decide +kernel
theorem dX12_takesE_149 : decode cX12_takesE 149 = .ok (.aload_n 0, 1) := by decide +kernel
theorem dX12_takesE_150 : decode cX12_takesE 150 = .ok (.dup, 1) := by decide +kernel
theorem dX12_takesE_151 : decode cX12_takesE 151 = .ok (.getfield 44, 3) := by decide +kernel
theorem dX12_takesE_154 : decode cX12_takesE 154 = .ok (.iconst 1, 1) := by decide +kernel
theorem dX12_takesE_155 : decode cX12_takesE 155 = .ok (.iadd, 1) := by decide +kernel
theorem dX12_takesE_156 : decode cX12_takesE 156 = .ok (.putfield 44, 3) := by decide +kernel
theorem dX12_takesE_159 : decode cX12_takesE 159 = .ok (.goto (-137), 3) := by decide +kernel
theorem dX12_takesE_162 : decode cX12_takesE 162 = .ok (.aload_n 0, 1) := by decide +kernel
theorem dX12_takesE_163 : decode cX12_takesE 163 = .ok (.bipush 124, 2) := by decide +kernel
theorem dX12_takesE_165 : decode cX12_takesE 165 = .ok (.invokevirtual 246, 3) := by decide +kernel
theorem dX12_takesE_168 : decode cX12_takesE 168 = .ok (.aload_n 0, 1) := by decide +kernel
theorem dX12_takesE_169 : decode cX12_takesE 169 = .ok (.getfield 65, 3) := by decide +kernel
theorem dX12_takesE_172 : decode cX12_takesE 172 = .ok (.iload_n 1, 1) := by decide +kernel
theorem dX12_takesE_173 : decode cX12_takesE 173 = .ok (.aload_n 0, 1) := by decide +kernel
theorem dX12_takesE_174 : decode cX12_takesE 174 = .ok (.getfield 74, 3) := by decide +kernel
theorem dX12_takesE_177 : decode cX12_takesE 177 = .ok (.iastore, 1) := by decide +kernel
theorem dX12_takesE_178 : decode cX12_takesE 178 = .ok (.aload_n 0, 1) := by decide +kernel
theorem dX12_takesE_179 : decode cX12_takesE 179 = .ok (.getfield 77, 3) := by decide +kernel
theorem dX12_takesE_182 : decode cX12_takesE 182 = .ok (.ifCond .ne 5, 3) := by decide +kernel
theorem dX12_takesE_185 : decode cX12_takesE 185 = .ok (.iconst 1, 1) := by decide +kernel
theorem dX12_takesE_186 : decode cX12_takesE 186 = .ok (.ireturn, 1) := by decide +kernel
theorem dX12_takesE_187 : decode cX12_takesE 187 = .ok (.iload_n 3, 1) := by decide +kernel
theorem dX12_takesE_188 : decode cX12_takesE 188 = .ok (.bipush 41, 2) := by decide +kernel
theorem dX12_takesE_190 : decode cX12_takesE 190 = .ok (.if_icmp .eq 5, 3) := by decide +kernel
theorem dX12_takesE_193 : decode cX12_takesE 193 = .ok (.iconst 0, 1) := by decide +kernel
theorem dX12_takesE_194 : decode cX12_takesE 194 = .ok (.ireturn, 1) := by decide +kernel
theorem dX12_takesE_195 : decode cX12_takesE 195 = .ok (.aload_n 0, 1) := by decide +kernel
theorem dX12_takesE_196 : decode cX12_takesE 196 = .ok (.dup, 1) := by decide +kernel
theorem dX12_takesE_197 : decode cX12_takesE 197 = .ok (.getfield 77, 3) := by decide +kernel
theorem dX12_takesE_200 : decode cX12_takesE 200 = .ok (.iconst 1, 1) := by decide +kernel
theorem dX12_takesE_201 : decode cX12_takesE 201 = .ok (.isub, 1) := by decide +kernel
theorem dX12_takesE_202 : decode cX12_takesE 202 = .ok (.putfield 77, 3) := by decide +kernel
theorem dX12_takesE_205 : decode cX12_takesE 205 = .ok (.aload_n 0, 1) := by decide +kernel
theorem dX12_takesE_206 : decode cX12_takesE 206 = .ok (.dup, 1) := by decide +kernel
theorem dX12_takesE_207 : decode cX12_takesE 207 = .ok (.getfield 80, 3) := by decide +kernel
theorem dX12_takesE_210 : decode cX12_takesE 210 = .ok (.iconst 1, 1) := by decide +kernel
theorem dX12_takesE_211 : decode cX12_takesE 211 = .ok (.isub, 1) := by decide +kernel
theorem dX12_takesE_212 : decode cX12_takesE 212 = .ok (.putfield 80, 3) := by decide +kernel
theorem dX12_takesE_215 : decode cX12_takesE 215 = .ok (.aload_n 0, 1) := by decide +kernel
theorem dX12_takesE_216 : decode cX12_takesE 216 = .ok (.dup, 1) := by decide +kernel
theorem dX12_takesE_217 : decode cX12_takesE 217 = .ok (.getfield 44, 3) := by decide +kernel
theorem dX12_takesE_220 : decode cX12_takesE 220 = .ok (.iconst 1, 1) := by decide +kernel
theorem dX12_takesE_221 : decode cX12_takesE 221 = .ok (.iadd, 1) := by decide +kernel
theorem dX12_takesE_222 : decode cX12_takesE 222 = .ok (.putfield 44, 3) := by decide +kernel
theorem dX12_takesE_225 : decode cX12_takesE 225 = .ok (.aload_n 0, 1) := by decide +kernel
theorem dX12_takesE_226 : decode cX12_takesE 226 = .ok (.invokevirtual 240, 3) := by decide +kernel
theorem dX12_takesE_229 : decode cX12_takesE 229 = .ok (.goto (-207), 3) := by decide +kernel
set_option maxRecDepth 20000 in
theorem ggX12_takesHead_X12_next : GoodIn wsX12_takesHead wsX12_next := goodIn_r _ [6, 7, 8, 9, 19, 20, 21, 22, 23, 24, 25, 26, 27, 28, 29, 30, 31, 32, 33, 34, 35, 36, 37, 38, 39, 40, 41, 42, 43, 44, 45, 46, 47, 48, 49, 50, 51, 52, 53, 54, 55, 56, 57, 58, 59, 60, 61, 62, 63, 64, 65, 66, 67, 68, 69, 70, 71, 72, 73, 74, 75, 76, 77, 78, 79, 80, 81] (by decide +kernel) (by decide +kernel)
set_option maxRecDepth 20000 in
theorem gX12_takesHead_X12_next : GoodIn wsX12_takesHead (wsV RX12 218 RX12 yX12_next wsX12_next) := goodIn_app (goodIn_of _ (by decide +kernel)) ggX12_takesHead_X12_next
set_option maxRecDepth 20000 in
theorem ggX12_takesHead_X12_takesWord : GoodIn wsX12_takesHead wsX12_takesWord := goodIn_r _ [13, 14, 15, 16, 17, 5, 18, 7, 2, 3, 4, 6, 8, 9, 19, 20, 21, 22, 23, 24, 25, 26, 27, 28, 29, 30, 31, 32, 33, 34, 35, 36, 37, 38, 39, 40, 41, 42, 43, 44, 45, 46, 47, 48, 49, 50, 51, 52, 53, 54, 55, 56, 57, 58, 59, 60, 61, 62, 63, 64, 65, 66, 67, 68, 69, 70, 71, 72, 73, 74, 75, 76, 77, 78, 79, 80, 81] (by decide +kernel) (by decide +kernel)
set_option maxRecDepth 20000 in
theorem gX12_takesHead_X12_takesWord : GoodIn wsX12_takesHead (wsV RX12 249 RX12 yX12_takesWord wsX12_takesWord) := goodIn_app (goodIn_of _ (by decide +kernel)) ggX12_takesHead_X12_takesWord
theorem dX12_takesHead_0 : decode cX12_takesHead 0 = .ok (.aload_n 0, 1) := by decide +kernel
theorem dX12_takesHead_1 : decode cX12_takesHead 1 = .ok (.invokevirtual 218, 3) := by decide +kernel
theorem dX12_takesHead_4 : decode cX12_takesHead 4 = .ok (.lookupswitch 56 #[(102, 28), (115, 42)], 28) := by decide +kernel
theorem dX12_takesHead_32 : decode cX12_takesHead 32 = .ok (.aload_n 0, 1) := by decide +kernel
theorem dX12_takesHead_33 : decode cX12_takesHead 33 = .ok (.getfield 56, 3) := by decide +kernel
theorem dX12_takesHead_36 : decode cX12_takesHead 36 = .ok (.iload_n 1, 1) := by decide +kernel
theorem dX12_takesHead_37 : decode cX12_takesHead 37 = .ok (.iconst 0, 1) := by decide +kernel
theorem dX12_takesHead_38 : decode cX12_takesHead 38 = .ok (.iastore, 1) := by decide +kernel
theorem dX12_takesHead_39 : decode cX12_takesHead 39 = .ok (.aload_n 0, 1) := by decide +kernel
theorem dX12_takesHead_40 : decode cX12_takesHead 40 = .ok (.iconst 0, 1) := by decide +kernel
theorem dX12_takesHead_41 : decode cX12_takesHead 41 = .ok (.iconst 4, 1) := by decide +kernel
theorem dX12_takesHead_42 : decode cX12_takesHead 42 = .ok (.invokevirtual 249, 3) := by decide +kernel
theorem dX12_takesHead_45 : decode cX12_takesHead 45 = .ok (.ireturn, 1) := by decide +kernel
theorem dX12_takesHead_46 : decode cX12_takesHead 46 = .ok (.aload_n 0, 1) := by decide +kernel
theorem dX12_takesHead_47 : decode cX12_takesHead 47 = .ok (.getfield 56, 3) := by decide +kernel
theorem dX12_takesHead_50 : decode cX12_takesHead 50 = .ok (.iload_n 1, 1) := by decide +kernel
theorem dX12_takesHead_51 : decode cX12_takesHead 51 = .ok (.iconst 1, 1) := by decide +kernel
theorem dX12_takesHead_52 : decode cX12_takesHead 52 = .ok (.iastore, 1) := by decide +kernel
theorem dX12_takesHead_53 : decode cX12_takesHead 53 = .ok (.aload_n 0, 1) := by decide +kernel
theorem dX12_takesHead_54 : decode cX12_takesHead 54 = .ok (.iconst 4, 1) := by decide +kernel
theorem dX12_takesHead_55 : decode cX12_takesHead 55 = .ok (.iconst 5, 1) := by decide +kernel
theorem dX12_takesHead_56 : decode cX12_takesHead 56 = .ok (.invokevirtual 249, 3) := by decide +kernel
theorem dX12_takesHead_59 : decode cX12_takesHead 59 = .ok (.ireturn, 1) := by decide +kernel
theorem dX12_takesHead_60 : decode cX12_takesHead 60 = .ok (.aload_n 0, 1) := by decide +kernel
theorem dX12_takesHead_61 : decode cX12_takesHead 61 = .ok (.getfield 56, 3) := by decide +kernel
theorem dX12_takesHead_64 : decode cX12_takesHead 64 = .ok (.iload_n 1, 1) := by decide +kernel
theorem dX12_takesHead_65 : decode cX12_takesHead 65 = .ok (.iconst 2, 1) := by decide +kernel
theorem dX12_takesHead_66 : decode cX12_takesHead 66 = .ok (.iastore, 1) := by decide +kernel
theorem dX12_takesHead_67 : decode cX12_takesHead 67 = .ok (.aload_n 0, 1) := by decide +kernel
theorem dX12_takesHead_68 : decode cX12_takesHead 68 = .ok (.bipush 9, 2) := by decide +kernel
theorem dX12_takesHead_70 : decode cX12_takesHead 70 = .ok (.iconst 4, 1) := by decide +kernel
theorem dX12_takesHead_71 : decode cX12_takesHead 71 = .ok (.invokevirtual 249, 3) := by decide +kernel
theorem dX12_takesHead_74 : decode cX12_takesHead 74 = .ok (.ireturn, 1) := by decide +kernel
set_option maxRecDepth 20000 in
theorem ggX12_takesClause_X12_takesHead : GoodIn wsX12_takesClause wsX12_takesHead := goodIn_r _ [8, 3, 9, 10, 11, 7, 12, 13, 14, 15, 16, 17, 18, 19, 20, 21, 22, 23, 24, 68, 69, 70, 71, 72, 73, 74, 75, 76, 77, 78, 79, 80, 81, 82, 83, 84, 85, 86, 87, 88, 89, 90, 91, 92, 93, 94, 95, 96, 97, 98, 99, 100, 101, 102, 103, 104, 105, 106, 107, 108, 109, 110, 111, 112, 113, 114, 115, 116, 117, 118, 119, 120, 121, 122, 123, 124, 125, 126, 127, 128, 129, 130] (by decide +kernel) (by decide +kernel)
set_option maxRecDepth 20000 in
theorem gX12_takesClause_X12_takesHead : GoodIn wsX12_takesClause (wsV RX12 252 RX12 yX12_takesHead wsX12_takesHead) := goodIn_app (goodIn_of _ (by decide +kernel)) ggX12_takesClause_X12_takesHead
set_option maxRecDepth 20000 in
theorem ggX12_takesClause_X12_takesNumber : GoodIn wsX12_takesClause wsX12_takesNumber := goodIn_r _ [28, 2, 13, 29, 30, 31, 7, 32, 9, 10, 11, 12, 14, 15, 33, 34, 35, 36, 68, 69, 70, 71, 72, 73, 74, 75, 76, 77, 78, 79, 80, 81, 82, 83, 84, 85, 86, 87, 88, 89, 90, 91, 92, 93, 94, 95, 96, 97, 98, 99, 100, 101, 102, 103, 104, 105, 106, 107, 108, 109, 110, 111, 112, 113, 114, 115, 116, 117, 118, 119, 120, 121, 122, 123, 124, 125, 126, 127, 128, 129, 130] (by decide +kernel) (by decide +kernel)
set_option maxRecDepth 20000 in
theorem gX12_takesClause_X12_takesNumber : GoodIn wsX12_takesClause (wsV RX12 237 RX12 yX12_takesNumber wsX12_takesNumber) := goodIn_app (goodIn_of _ (by decide +kernel)) ggX12_takesClause_X12_takesNumber
set_option maxRecDepth 20000 in
theorem ggX12_takesClause_X12_takes : GoodIn wsX12_takesClause wsX12_takes := goodIn_r _ [24, 13, 9, 10, 11, 7, 12, 14, 15, 68, 69, 70, 71, 72, 73, 74, 75, 76, 77, 78, 79, 80, 81, 82, 83, 84, 85, 86, 87, 88, 89, 90, 91, 92, 93, 94, 95, 96, 97, 98, 99, 100, 101, 102, 103, 104, 105, 106, 107, 108, 109, 110, 111, 112, 113, 114, 115, 116, 117, 118, 119, 120, 121, 122, 123, 124, 125, 126, 127, 128, 129, 130] (by decide +kernel) (by decide +kernel)
set_option maxRecDepth 20000 in
theorem gX12_takesClause_X12_takes : GoodIn wsX12_takesClause (wsV RX12 222 RX12 yX12_takes wsX12_takes) := goodIn_app (goodIn_of _ (by decide +kernel)) ggX12_takesClause_X12_takes
set_option maxRecDepth 20000 in
theorem ggX12_takesClause_X12_takesE : GoodIn wsX12_takesClause wsX12_takesE := goodIn_r _ [40, 41, 42, 43, 44, 45, 13, 46, 9, 10, 11, 7, 12, 14, 15, 47, 48, 49, 50, 2, 51, 52, 53, 54, 33, 34, 35, 36, 25, 26, 27, 28, 29, 30, 31, 32, 55, 56, 57, 58, 59, 60, 61, 62, 63, 64, 65, 66, 67, 68, 69, 70, 71, 72, 73, 74, 75, 76, 77, 78, 79, 80, 81, 82, 83, 84, 85, 86, 87, 88, 89, 90, 91, 92, 93, 94, 95, 96, 97, 98, 99, 100, 101, 102, 103, 104, 105, 106, 107, 108, 109, 110, 111, 112, 113, 114, 115, 116, 117, 118, 119, 120, 121, 122, 123, 124, 125, 126, 127, 128, 129, 130] (by decide +kernel) (by decide +kernel)
set_option maxRecDepth 20000 in
theorem gX12_takesClause_X12_takesE : GoodIn wsX12_takesClause (wsV RX12 255 RX12 yX12_takesE wsX12_takesE) := goodIn_app (goodIn_of _ (by decide +kernel)) ggX12_takesClause_X12_takesE
theorem dX12_takesClause_0 : decode cX12_takesClause 0 = .ok (.aload_n 0, 1) := by decide +kernel
theorem dX12_takesClause_1 : decode cX12_takesClause 1 = .ok (.iload_n 1, 1) := by decide +kernel
theorem dX12_takesClause_2 : decode cX12_takesClause 2 = .ok (.invokevirtual 252, 3) := by decide +kernel
theorem dX12_takesClause_5 : decode cX12_takesClause 5 = .ok (.ifCond .eq 10, 3) := by decide +kernel
theorem dX12_takesClause_8 : decode cX12_takesClause 8 = .ok (.aload_n 0, 1) := by decide +kernel
theorem dX12_takesClause_9 : decode cX12_takesClause 9 = .ok (.invokevirtual 237, 3) := by decide +kernel
theorem dX12_takesClause_12 : decode cX12_takesClause 12 = .ok (.ifCond .ne 5, 3) := by decide +kernel
theorem dX12_takesClause_15 : decode cX12_takesClause 15 = .ok (.iconst 0, 1) := by decide +kernel
theorem dX12_takesClause_16 : decode cX12_takesClause 16 = .ok (.ireturn, 1) := by decide +kernel
theorem dX12_takesClause_17 : decode cX12_takesClause 17 = .ok (.aload_n 0, 1) := by decide +kernel
theorem dX12_takesClause_18 : decode cX12_takesClause 18 = .ok (.getfield 59, 3) := by decide +kernel
theorem dX12_takesClause_21 : decode cX12_takesClause 21 = .ok (.iload_n 1, 1) := by decide +kernel
theorem dX12_takesClause_22 : decode cX12_takesClause 22 = .ok (.aload_n 0, 1) := by decide +kernel
theorem dX12_takesClause_23 : decode cX12_takesClause 23 = .ok (.getfield 47, 3) := by decide +kernel
theorem dX12_takesClause_26 : decode cX12_takesClause 26 = .ok (.iastore, 1) := by decide +kernel
theorem dX12_takesClause_27 : decode cX12_takesClause 27 = .ok (.aload_n 0, 1) := by decide +kernel
theorem dX12_takesClause_28 : decode cX12_takesClause 28 = .ok (.getfield 56, 3) := by decide +kernel
theorem dX12_takesClause_31 : decode cX12_takesClause 31 = .ok (.iload_n 1, 1) := by decide +kernel
theorem dX12_takesClause_32 : decode cX12_takesClause 32 = .ok (.iaload, 1) := by decide +kernel
theorem dX12_takesClause_33 : decode cX12_takesClause 33 = .ok (.iconst 2, 1) := by decide +kernel
theorem dX12_takesClause_34 : decode cX12_takesClause 34 = .ok (.if_icmp .eq 20, 3) := by decide +kernel
theorem dX12_takesClause_37 : decode cX12_takesClause 37 = .ok (.aload_n 0, 1) := by decide +kernel
theorem dX12_takesClause_38 : decode cX12_takesClause 38 = .ok (.bipush 32, 2) := by decide +kernel
theorem dX12_takesClause_40 : decode cX12_takesClause 40 = .ok (.invokevirtual 222, 3) := by decide +kernel
theorem dX12_takesClause_43 : decode cX12_takesClause 43 = .ok (.ifCond .eq 15, 3) := by decide +kernel
theorem dX12_takesClause_46 : decode cX12_takesClause 46 = .ok (.aload_n 0, 1) := by decide +kernel
theorem dX12_takesClause_47 : decode cX12_takesClause 47 = .ok (.iload_n 1, 1) := by decide +kernel
theorem dX12_takesClause_48 : decode cX12_takesClause 48 = .ok (.invokevirtual 255, 3) := by decide +kernel
theorem dX12_takesClause_51 : decode cX12_takesClause 51 = .ok (.ifCond .eq 7, 3) := by decide +kernel
theorem dX12_takesClause_54 : decode cX12_takesClause 54 = .ok (.iconst 1, 1) := by decide +kernel
theorem dX12_takesClause_55 : decode cX12_takesClause 55 = .ok (.goto 4, 3) := by decide +kernel
theorem dX12_takesClause_58 : decode cX12_takesClause 58 = .ok (.iconst 0, 1) := by decide +kernel
theorem dX12_takesClause_59 : decode cX12_takesClause 59 = .ok (.ireturn, 1) := by decide +kernel
set_option maxRecDepth 20000 in
theorem ggX12_goesText_X12_takesClause : GoodIn wsX12_goesText wsX12_takesClause := goodIn_r _ [9, 10, 11, 12, 13, 14, 15, 8, 16, 17, 18, 19, 20, 1, 4, 21, 22, 23, 24, 25, 26, 27, 28, 29, 30, 31, 32, 33, 34, 35, 36, 37, 38, 39, 40, 41, 42, 43, 44, 45, 46, 47, 48, 49, 2, 50, 51, 52, 53, 54, 55, 56, 57, 58, 59, 60, 61, 62, 63, 64, 65, 66, 67, 68, 69, 70, 71, 72, 73, 74, 75, 76, 77, 78, 79, 80, 81, 82, 83, 84, 85, 86, 87, 88, 89, 90, 91, 92, 93, 94, 95, 96, 97, 98, 99, 100, 101, 102, 103, 104, 105, 106, 107, 108, 109, 110, 111, 112, 113, 114, 115, 116, 117, 118, 119, 120, 121, 122, 123, 124, 125, 126, 127, 128, 129, 130, 131, 132, 133, 134, 135] (by decide +kernel) (by decide +kernel)
set_option maxRecDepth 20000 in
theorem gX12_goesText_X12_takesClause : GoodIn wsX12_goesText (wsV RX12 258 RX12 yX12_takesClause wsX12_takesClause) := goodIn_app (goodIn_of _ (by decide +kernel)) ggX12_goesText_X12_takesClause
set_option maxRecDepth 20000 in
theorem ggX12_goesText_X12_takes : GoodIn wsX12_goesText wsX12_takes := goodIn_r _ [30, 1, 17, 18, 19, 8, 20, 4, 21, 73, 74, 75, 76, 77, 78, 79, 80, 81, 82, 83, 84, 85, 86, 87, 88, 89, 90, 91, 92, 93, 94, 95, 96, 97, 98, 99, 100, 101, 102, 103, 104, 105, 106, 107, 108, 109, 110, 111, 112, 113, 114, 115, 116, 117, 118, 119, 120, 121, 122, 123, 124, 125, 126, 127, 128, 129, 130, 131, 132, 133, 134, 135] (by decide +kernel) (by decide +kernel)
set_option maxRecDepth 20000 in
theorem gX12_goesText_X12_takes : GoodIn wsX12_goesText (wsV RX12 222 RX12 yX12_takes wsX12_takes) := goodIn_app (goodIn_of _ (by decide +kernel)) ggX12_goesText_X12_takes
theorem dX12_goesText_0 : decode cX12_goesText 0 = .ok (.aload_n 0, 1) := by decide +kernel
theorem dX12_goesText_1 : decode cX12_goesText 1 = .ok (.iconst 0, 1) := by decide +kernel
theorem dX12_goesText_2 : decode cX12_goesText 2 = .ok (.putfield 44, 3) := by decide +kernel
theorem dX12_goesText_5 : decode cX12_goesText 5 = .ok (.aload_n 0, 1) := by decide +kernel
theorem dX12_goesText_6 : decode cX12_goesText 6 = .ok (.bipush 100, 2) := by decide +kernel
theorem dX12_goesText_8 : decode cX12_goesText 8 = .ok (.iload_n 1, 1) := by decide +kernel
theorem dX12_goesText_9 : decode cX12_goesText 9 = .ok (.imul, 1) := by decide +kernel
theorem dX12_goesText_10 : decode cX12_goesText 10 = .ok (.putfield 74, 3) := by decide +kernel
theorem dX12_goesText_13 : decode cX12_goesText 13 = .ok (.iconst 0, 1) := by decide +kernel
theorem dX12_goesText_14 : decode cX12_goesText 14 = .ok (.istore_n 2, 1) := by decide +kernel
theorem dX12_goesText_15 : decode cX12_goesText 15 = .ok (.aload_n 0, 1) := by decide +kernel
theorem dX12_goesText_16 : decode cX12_goesText 16 = .ok (.bipush 10, 2) := by decide +kernel
theorem dX12_goesText_18 : decode cX12_goesText 18 = .ok (.iload_n 1, 1) := by decide +kernel
theorem dX12_goesText_19 : decode cX12_goesText 19 = .ok (.imul, 1) := by decide +kernel
theorem dX12_goesText_20 : decode cX12_goesText 20 = .ok (.iload_n 2, 1) := by decide +kernel
theorem dX12_goesText_21 : decode cX12_goesText 21 = .ok (.iadd, 1) := by decide +kernel
theorem dX12_goesText_22 : decode cX12_goesText 22 = .ok (.invokevirtual 258, 3) := by decide +kernel
theorem dX12_goesText_25 : decode cX12_goesText 25 = .ok (.ifCond .ne 5, 3) := by decide +kernel
theorem dX12_goesText_28 : decode cX12_goesText 28 = .ok (.iconst 0, 1) := by decide +kernel
theorem dX12_goesText_29 : decode cX12_goesText 29 = .ok (.ireturn, 1) := by decide +kernel
theorem dX12_goesText_30 : decode cX12_goesText 30 = .ok (.iinc 2 1, 3) := by decide +kernel
theorem dX12_goesText_33 : decode cX12_goesText 33 = .ok (.aload_n 0, 1) := by decide +kernel
theorem dX12_goesText_34 : decode cX12_goesText 34 = .ok (.getfield 53, 3) := by decide +kernel
theorem dX12_goesText_37 : decode cX12_goesText 37 = .ok (.iload_n 1, 1) := by decide +kernel
theorem dX12_goesText_38 : decode cX12_goesText 38 = .ok (.iload_n 2, 1) := by decide +kernel
theorem dX12_goesText_39 : decode cX12_goesText 39 = .ok (.iastore, 1) := by decide +kernel
theorem dX12_goesText_40 : decode cX12_goesText 40 = .ok (.aload_n 0, 1) := by decide +kernel
theorem dX12_goesText_41 : decode cX12_goesText 41 = .ok (.getfield 44, 3) := by decide +kernel
theorem dX12_goesText_44 : decode cX12_goesText 44 = .ok (.aload_n 0, 1) := by decide +kernel
theorem dX12_goesText_45 : decode cX12_goesText 45 = .ok (.getfield 41, 3) := by decide +kernel
theorem dX12_goesText_48 : decode cX12_goesText 48 = .ok (.if_icmp .ne 5, 3) := by decide +kernel
theorem dX12_goesText_51 : decode cX12_goesText 51 = .ok (.iconst 1, 1) := by decide +kernel
theorem dX12_goesText_52 : decode cX12_goesText 52 = .ok (.ireturn, 1) := by decide +kernel
theorem dX12_goesText_53 : decode cX12_goesText 53 = .ok (.iload_n 2, 1) := by decide +kernel
theorem dX12_goesText_54 : decode cX12_goesText 54 = .ok (.bipush 10, 2) := by decide +kernel
theorem dX12_goesText_56 : decode cX12_goesText 56 = .ok (.if_icmp .eq 12, 3) := by decide +kernel
theorem dX12_goesText_59 : decode cX12_goesText 59 = .ok (.aload_n 0, 1) := by decide +kernel
theorem dX12_goesText_60 : decode cX12_goesText 60 = .ok (.bipush 59, 2) := by decide +kernel
theorem dX12_goesText_62 : decode cX12_goesText 62 = .ok (.invokevirtual 222, 3) := by decide +kernel
theorem dX12_goesText_65 : decode cX12_goesText 65 = .ok (.ifCond .ne (-50), 3) := by decide +kernel
theorem dX12_goesText_68 : decode cX12_goesText 68 = .ok (.iconst 0, 1) := by decide +kernel
theorem dX12_goesText_69 : decode cX12_goesText 69 = .ok (.ireturn, 1) := by decide +kernel
set_option maxRecDepth 20000 in
theorem ggX12_archive_X12_goesText : GoodIn wsX12_archive wsX12_goesText := goodIn_r _ [9, 3, 10, 11, 2, 12, 13, 14, 8, 15, 16, 17, 18, 19, 20, 21, 22, 23, 24, 25, 26, 27, 28, 29, 30, 31, 32, 33, 34, 35, 36, 37, 38, 39, 40, 41, 42, 43, 44, 45, 46, 47, 48, 49, 50, 51, 52, 53, 54, 55, 56, 57, 58, 59, 60, 61, 62, 63, 64, 65, 66, 67, 68, 69, 70, 71, 72, 73, 74, 75, 76, 77, 78, 79, 80, 81, 82, 83, 84, 85, 86, 87, 88, 89, 90, 91, 92, 93, 94, 95, 96, 97, 98, 99, 100, 101, 102, 103, 104, 105, 106, 107, 108, 109, 110, 111, 112, 113, 114, 115, 116, 117, 118, 119, 120, 121, 122, 123, 124, 125, 126, 127, 128, 129, 130, 131, 132, 133, 134, 135, 136, 137, 138, 139, 140, 141] (by decide +kernel) (by decide +kernel)
set_option maxRecDepth 20000 in
theorem gX12_archive_X12_goesText : GoodIn wsX12_archive (wsV RX12 261 RX12 yX12_goesText wsX12_goesText) := goodIn_app (goodIn_of _ (by decide +kernel)) ggX12_archive_X12_goesText
theorem dX12_archive_0 : decode cX12_archive 0 = .ok (.aload_n 0, 1) := by decide +kernel
theorem dX12_archive_1 : decode cX12_archive 1 = .ok (.getfield 35, 3) := by decide +kernel
theorem dX12_archive_4 : decode cX12_archive 4 = .ok (.bipush 6, 2) := by decide +kernel
theorem dX12_archive_6 : decode cX12_archive 6 = .ok (.if_icmp .ne 6, 3) := by decide +kernel
theorem dX12_archive_9 : decode cX12_archive 9 = .ok (.bipush (-4), 2) := by decide +kernel
theorem dX12_archive_11 : decode cX12_archive 11 = .ok (.ireturn, 1) := by decide +kernel
theorem dX12_archive_12 : decode cX12_archive 12 = .ok (.aload_n 0, 1) := by decide +kernel
theorem dX12_archive_13 : decode cX12_archive 13 = .ok (.aload_n 0, 1) := by decide +kernel
theorem dX12_archive_14 : decode cX12_archive 14 = .ok (.getfield 35, 3) := by decide +kernel
theorem dX12_archive_17 : decode cX12_archive 17 = .ok (.invokevirtual 261, 3) := by decide +kernel
theorem dX12_archive_20 : decode cX12_archive 20 = .ok (.istore_n 1, 1) := by decide +kernel
theorem dX12_archive_21 : decode cX12_archive 21 = .ok (.aload_n 0, 1) := by decide +kernel
theorem dX12_archive_22 : decode cX12_archive 22 = .ok (.iconst 0, 1) := by decide +kernel
theorem dX12_archive_23 : decode cX12_archive 23 = .ok (.putfield 41, 3) := by decide +kernel
theorem dX12_archive_26 : decode cX12_archive 26 = .ok (.iload_n 1, 1) := by decide +kernel
theorem dX12_archive_27 : decode cX12_archive 27 = .ok (.ifCond .ne 11, 3) := by decide +kernel
theorem dX12_archive_30 : decode cX12_archive 30 = .ok (.bipush (-10), 2) := by decide +kernel
theorem dX12_archive_32 : decode cX12_archive 32 = .ok (.aload_n 0, 1) := by decide +kernel
theorem dX12_archive_33 : decode cX12_archive 33 = .ok (.getfield 44, 3) := by decide +kernel
theorem dX12_archive_36 : decode cX12_archive 36 = .ok (.isub, 1) := by decide +kernel
theorem dX12_archive_37 : decode cX12_archive 37 = .ok (.ireturn, 1) := by decide +kernel
theorem dX12_archive_38 : decode cX12_archive 38 = .ok (.aload_n 0, 1) := by decide +kernel
theorem dX12_archive_39 : decode cX12_archive 39 = .ok (.aload_n 0, 1) := by decide +kernel
theorem dX12_archive_40 : decode cX12_archive 40 = .ok (.getfield 35, 3) := by decide +kernel
theorem dX12_archive_43 : decode cX12_archive 43 = .ok (.putfield 38, 3) := by decide +kernel
theorem dX12_archive_46 : decode cX12_archive 46 = .ok (.aload_n 0, 1) := by decide +kernel
theorem dX12_archive_47 : decode cX12_archive 47 = .ok (.dup, 1) := by decide +kernel
theorem dX12_archive_48 : decode cX12_archive 48 = .ok (.getfield 35, 3) := by decide +kernel
theorem dX12_archive_51 : decode cX12_archive 51 = .ok (.iconst 1, 1) := by decide +kernel
theorem dX12_archive_52 : decode cX12_archive 52 = .ok (.iadd, 1) := by decide +kernel
theorem dX12_archive_53 : decode cX12_archive 53 = .ok (.putfield 35, 3) := by decide +kernel
theorem dX12_archive_56 : decode cX12_archive 56 = .ok (.aload_n 0, 1) := by decide +kernel
theorem dX12_archive_57 : decode cX12_archive 57 = .ok (.getfield 38, 3) := by decide +kernel
theorem dX12_archive_60 : decode cX12_archive 60 = .ok (.ireturn, 1) := by decide +kernel
theorem dX12_begin_0 : decode cX12_begin 0 = .ok (.aload_n 0, 1) := by decide +kernel
theorem dX12_begin_1 : decode cX12_begin 1 = .ok (.getfield 38, 3) := by decide +kernel
theorem dX12_begin_4 : decode cX12_begin 4 = .ok (.ifCond .ge 7, 3) := by decide +kernel
theorem dX12_begin_7 : decode cX12_begin 7 = .ok (.iconst 0, 1) := by decide +kernel
theorem dX12_begin_8 : decode cX12_begin 8 = .ok (.goto 10, 3) := by decide +kernel
theorem dX12_begin_11 : decode cX12_begin 11 = .ok (.bipush 10, 2) := by decide +kernel
theorem dX12_begin_13 : decode cX12_begin 13 = .ok (.aload_n 0, 1) := by decide +kernel
theorem dX12_begin_14 : decode cX12_begin 14 = .ok (.getfield 38, 3) := by decide +kernel
theorem dX12_begin_17 : decode cX12_begin 17 = .ok (.imul, 1) := by decide +kernel
theorem dX12_begin_18 : decode cX12_begin 18 = .ok (.ireturn, 1) := by decide +kernel
theorem dX12_behind_0 : decode cX12_behind 0 = .ok (.aload_n 0, 1) := by decide +kernel
theorem dX12_behind_1 : decode cX12_behind 1 = .ok (.getfield 38, 3) := by decide +kernel
theorem dX12_behind_4 : decode cX12_behind 4 = .ok (.ifCond .ge 7, 3) := by decide +kernel
theorem dX12_behind_7 : decode cX12_behind 7 = .ok (.iconst 0, 1) := by decide +kernel
theorem dX12_behind_8 : decode cX12_behind 8 = .ok (.goto 20, 3) := by decide +kernel
theorem dX12_behind_11 : decode cX12_behind 11 = .ok (.bipush 10, 2) := by decide +kernel
theorem dX12_behind_13 : decode cX12_behind 13 = .ok (.aload_n 0, 1) := by decide +kernel
theorem dX12_behind_14 : decode cX12_behind 14 = .ok (.getfield 38, 3) := by decide +kernel
theorem dX12_behind_17 : decode cX12_behind 17 = .ok (.imul, 1) := by decide +kernel
theorem dX12_behind_18 : decode cX12_behind 18 = .ok (.aload_n 0, 1) := by decide +kernel
theorem dX12_behind_19 : decode cX12_behind 19 = .ok (.getfield 53, 3) := by decide +kernel
theorem dX12_behind_22 : decode cX12_behind 22 = .ok (.aload_n 0, 1) := by decide +kernel
theorem dX12_behind_23 : decode cX12_behind 23 = .ok (.getfield 38, 3) := by decide +kernel
theorem dX12_behind_26 : decode cX12_behind 26 = .ok (.iaload, 1) := by decide +kernel
theorem dX12_behind_27 : decode cX12_behind 27 = .ok (.iadd, 1) := by decide +kernel
theorem dX12_behind_28 : decode cX12_behind 28 = .ok (.ireturn, 1) := by decide +kernel
set_option maxRecDepth 20000 in
theorem ggX12_keep_X12_begin : GoodIn wsX12_keep wsX12_begin := goodIn_r _ [7, 8, 14, 15, 16, 17, 18, 19, 20, 21, 22, 23, 24, 25, 26, 27, 28, 29, 30, 31, 32, 33, 34, 35, 36, 37, 38, 39, 40, 41, 42, 43, 44, 45, 46, 47, 48, 49, 50, 51, 52, 53, 54, 55, 56, 57, 58, 59, 60, 61, 62, 63, 64, 65, 66, 67, 68, 69, 70, 71, 72, 73, 74, 75, 76] (by decide +kernel) (by decide +kernel)
set_option maxRecDepth 20000 in
theorem gX12_keep_X12_begin : GoodIn wsX12_keep (wsV RX12 264 RX12 yX12_begin wsX12_begin) := goodIn_app (goodIn_of _ (by decide +kernel)) ggX12_keep_X12_begin
set_option maxRecDepth 20000 in
theorem ggX12_keep_X12_behind : GoodIn wsX12_keep wsX12_behind := goodIn_r _ [12, 8, 13, 14, 15, 16, 17, 18, 19, 20, 21, 22, 23, 24, 25, 26, 27, 28, 29, 30, 31, 32, 33, 34, 35, 36, 37, 38, 39, 40, 41, 42, 43, 44, 45, 46, 47, 48, 49, 50, 51, 52, 53, 54, 55, 56, 57, 58, 59, 60, 61, 62, 63, 64, 65, 66, 67, 68, 69, 70, 71, 72, 73, 74, 75, 76] (by decide +kernel) (by decide +kernel)
set_option maxRecDepth 20000 in
theorem gX12_keep_X12_behind : GoodIn wsX12_keep (wsV RX12 267 RX12 yX12_behind wsX12_behind) := goodIn_app (goodIn_of _ (by decide +kernel)) ggX12_keep_X12_behind
theorem dX12_keep_0 : decode cX12_keep 0 = .ok (.iconst 1, 1) := by decide +kernel
theorem dX12_keep_1 : decode cX12_keep 1 = .ok (.istore_n 1, 1) := by decide +kernel
theorem dX12_keep_2 : decode cX12_keep 2 = .ok (.aload_n 0, 1) := by decide +kernel
theorem dX12_keep_3 : decode cX12_keep 3 = .ok (.invokevirtual 264, 3) := by decide +kernel
theorem dX12_keep_6 : decode cX12_keep 6 = .ok (.istore_n 2, 1) := by decide +kernel
theorem dX12_keep_7 : decode cX12_keep 7 = .ok (.iload_n 2, 1) := by decide +kernel
theorem dX12_keep_8 : decode cX12_keep 8 = .ok (.aload_n 0, 1) := by decide +kernel
theorem dX12_keep_9 : decode cX12_keep 9 = .ok (.invokevirtual 267, 3) := by decide +kernel
theorem dX12_keep_12 : decode cX12_keep 12 = .ok (.if_icmp .ge 30, 3) := by decide +kernel
theorem dX12_keep_15 : decode cX12_keep 15 = .ok (.aload_n 0, 1) := by decide +kernel
theorem dX12_keep_16 : decode cX12_keep 16 = .ok (.getfield 56, 3) := by decide +kernel
theorem dX12_keep_19 : decode cX12_keep 19 = .ok (.iload_n 2, 1) := by decide +kernel
theorem dX12_keep_20 : decode cX12_keep 20 = .ok (.iaload, 1) := by decide +kernel
theorem dX12_keep_21 : decode cX12_keep 21 = .ok (.iconst 2, 1) := by decide +kernel
theorem dX12_keep_22 : decode cX12_keep 22 = .ok (.if_icmp .ne 12, 3) := by decide +kernel
theorem dX12_keep_25 : decode cX12_keep 25 = .ok (.aload_n 0, 1) := by decide +kernel
theorem dX12_keep_26 : decode cX12_keep 26 = .ok (.getfield 59, 3) := by decide +kernel
theorem dX12_keep_29 : decode cX12_keep 29 = .ok (.iload_n 2, 1) := by decide +kernel
theorem dX12_keep_30 : decode cX12_keep 30 = .ok (.iaload, 1) := by decide +kernel
theorem dX12_keep_31 : decode cX12_keep 31 = .ok (.goto 4, 3) := by decide +kernel
theorem dX12_keep_34 : decode cX12_keep 34 = .ok (.iload_n 1, 1) := by decide +kernel
theorem dX12_keep_35 : decode cX12_keep 35 = .ok (.istore_n 1, 1) := by decide +kernel
theorem dX12_keep_36 : decode cX12_keep 36 = .ok (.iinc 2 1, 3) := by decide +kernel
theorem dX12_keep_39 : decode cX12_keep 39 = .ok (.goto (-32), 3) := by decide +kernel
theorem dX12_keep_42 : decode cX12_keep 42 = .ok (.iload_n 1, 1) := by decide +kernel
theorem dX12_keep_43 : decode cX12_keep 43 = .ok (.ireturn, 1) := by decide +kernel
theorem dX12_factOf_0 : decode cX12_factOf 0 = .ok (.iload_n 1, 1) := by decide +kernel
theorem dX12_factOf_1 : decode cX12_factOf 1 = .ok (.tableswitch 64 0 4 #[35, 37, 44, 51, 56], 35) := by decide +kernel
theorem dX12_factOf_36 : decode cX12_factOf 36 = .ok (.iload_n 2, 1) := by decide +kernel
theorem dX12_factOf_37 : decode cX12_factOf 37 = .ok (.ireturn, 1) := by decide +kernel
theorem dX12_factOf_38 : decode cX12_factOf 38 = .ok (.aload_n 0, 1) := by decide +kernel
theorem dX12_factOf_39 : decode cX12_factOf 39 = .ok (.getfield 22, 3) := by decide +kernel
theorem dX12_factOf_42 : decode cX12_factOf 42 = .ok (.iload_n 2, 1) := by decide +kernel
theorem dX12_factOf_43 : decode cX12_factOf 43 = .ok (.iaload, 1) := by decide +kernel
theorem dX12_factOf_44 : decode cX12_factOf 44 = .ok (.ireturn, 1) := by decide +kernel
theorem dX12_factOf_45 : decode cX12_factOf 45 = .ok (.aload_n 0, 1) := by decide +kernel
theorem dX12_factOf_46 : decode cX12_factOf 46 = .ok (.getfield 26, 3) := by decide +kernel
theorem dX12_factOf_49 : decode cX12_factOf 49 = .ok (.iload_n 2, 1) := by decide +kernel
theorem dX12_factOf_50 : decode cX12_factOf 50 = .ok (.iaload, 1) := by decide +kernel
theorem dX12_factOf_51 : decode cX12_factOf 51 = .ok (.ireturn, 1) := by decide +kernel
theorem dX12_factOf_52 : decode cX12_factOf 52 = .ok (.iload_n 3, 1) := by decide +kernel
theorem dX12_factOf_53 : decode cX12_factOf 53 = .ok (.bipush 10, 2) := by decide +kernel
theorem dX12_factOf_55 : decode cX12_factOf 55 = .ok (.irem, 1) := by decide +kernel
theorem dX12_factOf_56 : decode cX12_factOf 56 = .ok (.ireturn, 1) := by decide +kernel
theorem dX12_factOf_57 : decode cX12_factOf 57 = .ok (.iload_n 3, 1) := by decide +kernel
theorem dX12_factOf_58 : decode cX12_factOf 58 = .ok (.bipush 10, 2) := by decide +kernel
theorem dX12_factOf_60 : decode cX12_factOf 60 = .ok (.idiv, 1) := by decide +kernel
theorem dX12_factOf_61 : decode cX12_factOf 61 = .ok (.bipush 10, 2) := by decide +kernel
theorem dX12_factOf_63 : decode cX12_factOf 63 = .ok (.irem, 1) := by decide +kernel
theorem dX12_factOf_64 : decode cX12_factOf 64 = .ok (.ireturn, 1) := by decide +kernel
theorem dX12_factOf_65 : decode cX12_factOf 65 = .ok (.iload 4, 2) := by decide +kernel
theorem dX12_factOf_67 : decode cX12_factOf 67 = .ok (.ireturn, 1) := by decide +kernel
set_option maxRecDepth 20000 in
theorem ggX12_holds_X12_factOf : GoodIn wsX12_holds wsX12_factOf := goodIn_r _ [9, 10, 11, 12, 13, 14, 15, 16, 17, 18, 19, 20, 21, 22, 23, 24, 25, 26, 27, 28, 29, 30, 31, 32, 33, 34, 35, 36, 37, 38, 39, 40, 41, 42, 43, 44, 45, 46, 47, 48, 49, 50, 51, 52, 53, 54, 55, 56, 57, 58, 59, 60, 61, 62, 63, 64, 65, 66, 67, 68, 69, 70, 71, 72, 73, 74] (by decide +kernel) (by decide +kernel)
set_option maxRecDepth 20000 in
theorem gX12_holds_X12_factOf : GoodIn wsX12_holds (wsV RX12 270 RX12 yX12_factOf wsX12_factOf) := goodIn_app (goodIn_of _ (by decide +kernel)) ggX12_holds_X12_factOf
theorem dX12_holds_0 : decode cX12_holds 0 = .ok (.iconst 0, 1) := by decide +kernel
theorem dX12_holds_1 : decode cX12_holds 1 = .ok (.istore 5, 2) := by decide +kernel
theorem dX12_holds_3 : decode cX12_holds 3 = .ok (.aload_n 0, 1) := by decide +kernel
theorem dX12_holds_4 : decode cX12_holds 4 = .ok (.getfield 62, 3) := by decide +kernel
theorem dX12_holds_7 : decode cX12_holds 7 = .ok (.iload_n 1, 1) := by decide +kernel
theorem dX12_holds_8 : decode cX12_holds 8 = .ok (.iaload, 1) := by decide +kernel
theorem dX12_holds_9 : decode cX12_holds 9 = .ok (.istore 6, 2) := by decide +kernel
theorem dX12_holds_11 : decode cX12_holds 11 = .ok (.iload 6, 2) := by decide +kernel
theorem dX12_holds_13 : decode cX12_holds 13 = .ok (.aload_n 0, 1) := by decide +kernel
theorem dX12_holds_14 : decode cX12_holds 14 = .ok (.getfield 65, 3) := by decide +kernel
theorem dX12_holds_17 : decode cX12_holds 17 = .ok (.iload_n 1, 1) := by decide +kernel
theorem dX12_holds_18 : decode cX12_holds 18 = .ok (.iaload, 1) := by decide +kernel
theorem dX12_holds_19 : decode cX12_holds 19 = .ok (.if_icmp .ge 236, 3) := by decide +kernel
theorem dX12_holds_22 : decode cX12_holds 22 = .ok (.aload_n 0, 1) := by decide +kernel
theorem dX12_holds_23 : decode cX12_holds 23 = .ok (.getfield 68, 3) := by decide +kernel
theorem dX12_holds_26 : decode cX12_holds 26 = .ok (.iload 6, 2) := by decide +kernel
theorem dX12_holds_28 : decode cX12_holds 28 = .ok (.iaload, 1) := by decide +kernel
theorem dX12_holds_29 : decode cX12_holds 29 = .ok (.istore 7, 2) := by decide +kernel
theorem dX12_holds_31 : decode cX12_holds 31 = .ok (.iload 7, 2) := by decide +kernel
theorem dX12_holds_33 : decode cX12_holds 33 = .ok (.bipush (-33), 2) := by decide +kernel
theorem dX12_holds_35 : decode cX12_holds 35 = .ok (.if_icmp .ne 32, 3) := by decide +kernel
theorem dX12_holds_38 : decode cX12_holds 38 = .ok (.aload_n 0, 1) := by decide +kernel
theorem dX12_holds_39 : decode cX12_holds 39 = .ok (.getfield 86, 3) := by decide +kernel
theorem dX12_holds_42 : decode cX12_holds 42 = .ok (.iload 5, 2) := by decide +kernel
theorem dX12_holds_44 : decode cX12_holds 44 = .ok (.iconst 1, 1) := by decide +kernel
theorem dX12_holds_45 : decode cX12_holds 45 = .ok (.isub, 1) := by decide +kernel
theorem dX12_holds_46 : decode cX12_holds 46 = .ok (.aload_n 0, 1) := by decide +kernel
theorem dX12_holds_47 : decode cX12_holds 47 = .ok (.getfield 86, 3) := by decide +kernel
theorem dX12_holds_50 : decode cX12_holds 50 = .ok (.iload 5, 2) := by decide +kernel
theorem dX12_holds_52 : decode cX12_holds 52 = .ok (.iconst 1, 1) := by decide +kernel
theorem dX12_holds_53 : decode cX12_holds 53 = .ok (.isub, 1) := by decide +kernel
theorem dX12_holds_54 : decode cX12_holds 54 = .ok (.baload, 1) := by decide +kernel
theorem dX12_holds_55 : decode cX12_holds 55 = .ok (.ifCond .ne 7, 3) := by decide +kernel
theorem dX12_holds_58 : decode cX12_holds 58 = .ok (.iconst 1, 1) := by decide +kernel
theorem dX12_holds_59 : decode cX12_holds 59 = .ok (.goto 4, 3) := by decide +kernel
theorem dX12_holds_62 : decode cX12_holds 62 = .ok (.iconst 0, 1) := by decide +kernel
theorem dX12_holds_63 : decode cX12_holds 63 = .ok (.bastore, 1) := by decide +kernel
theorem dX12_holds_64 : decode cX12_holds 64 = .ok (.goto 185, 3) := by decide +kernel
theorem dX12_holds_67 : decode cX12_holds 67 = .ok (.iload 7, 2) := by decide +kernel
theorem dX12_holds_69 : decode cX12_holds 69 = .ok (.ifCond .ge 82, 3) := by decide +kernel
theorem dX12_holds_72 : decode cX12_holds 72 = .ok (.iinc 5 (-1), 3) := by decide +kernel
theorem dX12_holds_75 : decode cX12_holds 75 = .ok (.aload_n 0, 1) := by decide +kernel
theorem dX12_holds_76 : decode cX12_holds 76 = .ok (.getfield 86, 3) := by decide +kernel
theorem dX12_holds_79 : decode cX12_holds 79 = .ok (.iload 5, 2) := by decide +kernel
theorem dX12_holds_81 : decode cX12_holds 81 = .ok (.iconst 1, 1) := by decide +kernel
theorem dX12_holds_82 : decode cX12_holds 82 = .ok (.isub, 1) := by decide +kernel
theorem dX12_holds_83 : decode cX12_holds 83 = .ok (.iload 7, 2) := by decide +kernel
theorem dX12_holds_85 : decode cX12_holds 85 = .ok (.bipush (-38), 2) := by decide +kernel
theorem dX12_holds_87 : decode cX12_holds 87 = .ok (.if_icmp .ne 33, 3) := by decide +kernel
theorem dX12_holds_90 : decode cX12_holds 90 = .ok (.aload_n 0, 1) := by decide +kernel
theorem dX12_holds_91 : decode cX12_holds 91 = .ok (.getfield 86, 3) := by decide +kernel
theorem dX12_holds_94 : decode cX12_holds 94 = .ok (.iload 5, 2) := by decide +kernel
theorem dX12_holds_96 : decode cX12_holds 96 = .ok (.iconst 1, 1) := by decide +kernel
theorem dX12_holds_97 : decode cX12_holds 97 = .ok (.isub, 1) := by decide +kernel
theorem dX12_holds_98 : decode cX12_holds 98 = .ok (.baload, 1) := by decide +kernel
theorem dX12_holds_99 : decode cX12_holds 99 = .ok (.ifCond .eq 17, 3) := by decide +kernel
theorem dX12_holds_102 : decode cX12_holds 102 = .ok (.aload_n 0, 1) := by decide +kernel
theorem dX12_holds_103 : decode cX12_holds 103 = .ok (.getfield 86, 3) := by decide +kernel
theorem dX12_holds_106 : decode cX12_holds 106 = .ok (.iload 5, 2) := by decide +kernel
theorem dX12_holds_108 : decode cX12_holds 108 = .ok (.baload, 1) := by decide +kernel
theorem dX12_holds_109 : decode cX12_holds 109 = .ok (.ifCond .eq 7, 3) := by decide +kernel
theorem dX12_holds_112 : decode cX12_holds 112 = .ok (.iconst 1, 1) := by decide +kernel
theorem dX12_holds_113 : decode cX12_holds 113 = .ok (.goto 34, 3) := by decide +kernel
theorem dX12_holds_116 : decode cX12_holds 116 = .ok (.iconst 0, 1) := by decide +kernel
theorem dX12_holds_117 : decode cX12_holds 117 = .ok (.goto 30, 3) := by decide +kernel
theorem dX12_holds_120 : decode cX12_holds 120 = .ok (.aload_n 0, 1) := by decide +kernel
theorem dX12_holds_121 : decode cX12_holds 121 = .ok (.getfield 86, 3) := by decide +kernel
theorem dX12_holds_124 : decode cX12_holds 124 = .ok (.iload 5, 2) := by decide +kernel
theorem dX12_holds_126 : decode cX12_holds 126 = .ok (.iconst 1, 1) := by decide +kernel
theorem dX12_holds_127 : decode cX12_holds 127 = .ok (.isub, 1) := by decide +kernel
theorem dX12_holds_128 : decode cX12_holds 128 = .ok (.baload, 1) := by decide +kernel
theorem dX12_holds_129 : decode cX12_holds 129 = .ok (.ifCond .ne 13, 3) := by decide +kernel
theorem dX12_holds_132 : decode cX12_holds 132 = .ok (.aload_n 0, 1) := by decide +kernel
theorem dX12_holds_133 : decode cX12_holds 133 = .ok (.getfield 86, 3) := by decide +kernel
theorem dX12_holds_136 : decode cX12_holds 136 = .ok (.iload 5, 2) := by decide +kernel
theorem dX12_holds_138 : decode cX12_holds 138 = .ok (.baload, 1) := by decide +kernel
theorem dX12_holds_139 : decode cX12_holds 139 = .ok (.ifCond .eq 7, 3) := by decide +kernel
theorem dX12_holds_142 : decode cX12_holds 142 = .ok (.iconst 1, 1) := by decide +kernel
theorem dX12_holds_143 : decode cX12_holds 143 = .ok (.goto 4, 3) := by decide +kernel
theorem dX12_holds_146 : decode cX12_holds 146 = .ok (.iconst 0, 1) := by decide +kernel
theorem dX12_holds_147 : decode cX12_holds 147 = .ok (.bastore, 1) := by decide +kernel
theorem dX12_holds_148 : decode cX12_holds 148 = .ok (.goto 101, 3) := by decide +kernel
theorem dX12_holds_151 : decode cX12_holds 151 = .ok (.aload_n 0, 1) := by decide +kernel
theorem dX12_holds_152 : decode cX12_holds 152 = .ok (.iload 7, 2) := by decide +kernel
theorem dX12_holds_154 : decode cX12_holds 154 = .ok (.sipush 1000, 3) := by decide +kernel
theorem dX12_holds_157 : decode cX12_holds 157 = .ok (.idiv, 1) := by decide +kernel
theorem dX12_holds_158 : decode cX12_holds 158 = .ok (.iload_n 2, 1) := by decide +kernel
theorem dX12_holds_159 : decode cX12_holds 159 = .ok (.iload_n 3, 1) := by decide +kernel
theorem dX12_holds_160 : decode cX12_holds 160 = .ok (.iload 4, 2) := by decide +kernel
theorem dX12_holds_162 : decode cX12_holds 162 = .ok (.invokevirtual 270, 3) := by decide +kernel
theorem dX12_holds_165 : decode cX12_holds 165 = .ok (.istore 8, 2) := by decide +kernel
theorem dX12_holds_167 : decode cX12_holds 167 = .ok (.iload 7, 2) := by decide +kernel
theorem dX12_holds_169 : decode cX12_holds 169 = .ok (.bipush 100, 2) := by decide +kernel
theorem dX12_holds_171 : decode cX12_holds 171 = .ok (.idiv, 1) := by decide +kernel
theorem dX12_holds_172 : decode cX12_holds 172 = .ok (.bipush 10, 2) := by decide +kernel
theorem dX12_holds_174 : decode cX12_holds 174 = .ok (.irem, 1) := by decide +kernel
theorem dX12_holds_175 : decode cX12_holds 175 = .ok (.istore 9, 2) := by decide +kernel
theorem dX12_holds_177 : decode cX12_holds 177 = .ok (.aload_n 0, 1) := by decide +kernel
theorem dX12_holds_178 : decode cX12_holds 178 = .ok (.getfield 86, 3) := by decide +kernel
theorem dX12_holds_181 : decode cX12_holds 181 = .ok (.iload 5, 2) := by decide +kernel
theorem dX12_holds_183 : decode cX12_holds 183 = .ok (.iload 9, 2) := by decide +kernel
theorem dX12_holds_185 : decode cX12_holds 185 = .ok (.ifCond .ne 21, 3) := by decide +kernel
theorem dX12_holds_188 : decode cX12_holds 188 = .ok (.iload 8, 2) := by decide +kernel
theorem dX12_holds_190 : decode cX12_holds 190 = .ok (.iload 7, 2) := by decide +kernel
theorem dX12_holds_192 : decode cX12_holds 192 = .ok (.bipush 100, 2) := by decide +kernel
theorem dX12_holds_194 : decode cX12_holds 194 = .ok (.irem, 1) := by decide +kernel
theorem dX12_holds_195 : decode cX12_holds 195 = .ok (.if_icmp .ge 7, 3) := by decide +kernel
theorem dX12_holds_198 : decode cX12_holds 198 = .ok (.iconst 1, 1) := by decide +kernel
theorem dX12_holds_199 : decode cX12_holds 199 = .ok (.goto 46, 3) := by decide +kernel
theorem dX12_holds_202 : decode cX12_holds 202 = .ok (.iconst 0, 1) := by decide +kernel
theorem dX12_holds_203 : decode cX12_holds 203 = .ok (.goto 42, 3) := by decide +kernel
theorem dX12_holds_206 : decode cX12_holds 206 = .ok (.iload 9, 2) := by decide +kernel
theorem dX12_holds_208 : decode cX12_holds 208 = .ok (.iconst 1, 1) := by decide +kernel
theorem dX12_holds_209 : decode cX12_holds 209 = .ok (.if_icmp .ne 21, 3) := by decide +kernel
theorem dX12_holds_212 : decode cX12_holds 212 = .ok (.iload 8, 2) := by decide +kernel
theorem dX12_holds_214 : decode cX12_holds 214 = .ok (.iload 7, 2) := by decide +kernel
theorem dX12_holds_216 : decode cX12_holds 216 = .ok (.bipush 100, 2) := by decide +kernel
theorem dX12_holds_218 : decode cX12_holds 218 = .ok (.irem, 1) := by decide +kernel
theorem dX12_holds_219 : decode cX12_holds 219 = .ok (.if_icmp .ne 7, 3) := by decide +kernel
theorem dX12_holds_222 : decode cX12_holds 222 = .ok (.iconst 1, 1) := by decide +kernel
theorem dX12_holds_223 : decode cX12_holds 223 = .ok (.goto 22, 3) := by decide +kernel
theorem dX12_holds_226 : decode cX12_holds 226 = .ok (.iconst 0, 1) := by decide +kernel
theorem dX12_holds_227 : decode cX12_holds 227 = .ok (.goto 18, 3) := by decide +kernel
theorem dX12_holds_230 : decode cX12_holds 230 = .ok (.iload 8, 2) := by decide +kernel
theorem dX12_holds_232 : decode cX12_holds 232 = .ok (.iload 7, 2) := by decide +kernel
theorem dX12_holds_234 : decode cX12_holds 234 = .ok (.bipush 100, 2) := by decide +kernel
theorem dX12_holds_236 : decode cX12_holds 236 = .ok (.irem, 1) := by decide +kernel
theorem dX12_holds_237 : decode cX12_holds 237 = .ok (.if_icmp .le 7, 3) := by decide +kernel
theorem dX12_holds_240 : decode cX12_holds 240 = .ok (.iconst 1, 1) := by decide +kernel
theorem dX12_holds_241 : decode cX12_holds 241 = .ok (.goto 4, 3) := by decide +kernel
theorem dX12_holds_244 : decode cX12_holds 244 = .ok (.iconst 0, 1) := by decide +kernel
theorem dX12_holds_245 : decode cX12_holds 245 = .ok (.bastore, 1) := by decide +kernel
theorem dX12_holds_246 : decode cX12_holds 246 = .ok (.iinc 5 1, 3) := by decide +kernel
theorem dX12_holds_249 : decode cX12_holds 249 = .ok (.iinc 6 1, 3) := by decide +kernel
theorem dX12_holds_252 : decode cX12_holds 252 = .ok (.goto (-241), 3) := by decide +kernel
theorem dX12_holds_255 : decode cX12_holds 255 = .ok (.aload_n 0, 1) := by decide +kernel
theorem dX12_holds_256 : decode cX12_holds 256 = .ok (.getfield 86, 3) := by decide +kernel
theorem dX12_holds_259 : decode cX12_holds 259 = .ok (.iconst 0, 1) := by decide +kernel
theorem dX12_holds_260 : decode cX12_holds 260 = .ok (.baload, 1) := by decide +kernel
theorem dX12_holds_261 : decode cX12_holds 261 = .ok (.ireturn, 1) := by decide +kernel
set_option maxRecDepth 20000 in
theorem ggX12_base_X12_begin : GoodIn wsX12_base wsX12_begin := goodIn_r _ [7, 8, 28, 29, 30, 31, 32, 33, 34, 35, 36, 37, 38, 39, 40, 41, 42, 43, 44, 45, 46, 47, 48, 49, 50, 51, 52, 53, 54, 55, 56, 57, 58, 59, 60, 61, 62, 63, 64, 65, 66, 67, 68, 69, 70, 71, 72, 73, 74, 75, 76, 77, 78, 79, 80, 81, 82, 83, 84, 85, 86, 87, 88, 89, 90] (by decide +kernel) (by decide +kernel)
set_option maxRecDepth 20000 in
theorem gX12_base_X12_begin : GoodIn wsX12_base (wsV RX12 264 RX12 yX12_begin wsX12_begin) := goodIn_app (goodIn_of _ (by decide +kernel)) ggX12_base_X12_begin
set_option maxRecDepth 20000 in
theorem ggX12_base_X12_behind : GoodIn wsX12_base wsX12_behind := goodIn_r _ [12, 8, 13, 28, 29, 30, 31, 32, 33, 34, 35, 36, 37, 38, 39, 40, 41, 42, 43, 44, 45, 46, 47, 48, 49, 50, 51, 52, 53, 54, 55, 56, 57, 58, 59, 60, 61, 62, 63, 64, 65, 66, 67, 68, 69, 70, 71, 72, 73, 74, 75, 76, 77, 78, 79, 80, 81, 82, 83, 84, 85, 86, 87, 88, 89, 90] (by decide +kernel) (by decide +kernel)
set_option maxRecDepth 20000 in
theorem gX12_base_X12_behind : GoodIn wsX12_base (wsV RX12 267 RX12 yX12_behind wsX12_behind) := goodIn_app (goodIn_of _ (by decide +kernel)) ggX12_base_X12_behind
set_option maxRecDepth 20000 in
theorem ggX12_base_X12_holds : GoodIn wsX12_base wsX12_holds := goodIn_r _ [17, 18, 19, 20, 21, 22, 23, 24, 6, 25, 26, 27, 28, 29, 30, 31, 32, 33, 34, 35, 36, 37, 38, 39, 40, 41, 42, 43, 44, 45, 46, 47, 48, 49, 50, 51, 52, 53, 54, 55, 56, 57, 58, 59, 60, 61, 62, 63, 64, 65, 66, 67, 68, 69, 70, 71, 72, 73, 74, 75, 76, 77, 78, 79, 80, 81, 82, 83, 84, 85, 86, 87, 88, 89, 90] (by decide +kernel) (by decide +kernel)
set_option maxRecDepth 20000 in
theorem gX12_base_X12_holds : GoodIn wsX12_base (wsV RX12 274 RX12 yX12_holds wsX12_holds) := goodIn_app (goodIn_of _ (by decide +kernel)) ggX12_base_X12_holds
theorem dX12_base_0 : decode cX12_base 0 = .ok (.bipush 10, 2) := by decide +kernel
theorem dX12_base_2 : decode cX12_base 2 = .ok (.istore 4, 2) := by decide +kernel
theorem dX12_base_4 : decode cX12_base 4 = .ok (.aload_n 0, 1) := by decide +kernel
theorem dX12_base_5 : decode cX12_base 5 = .ok (.invokevirtual 264, 3) := by decide +kernel
theorem dX12_base_8 : decode cX12_base 8 = .ok (.istore 5, 2) := by decide +kernel
theorem dX12_base_10 : decode cX12_base 10 = .ok (.iload 5, 2) := by decide +kernel
theorem dX12_base_12 : decode cX12_base 12 = .ok (.aload_n 0, 1) := by decide +kernel
theorem dX12_base_13 : decode cX12_base 13 = .ok (.invokevirtual 267, 3) := by decide +kernel
theorem dX12_base_16 : decode cX12_base 16 = .ok (.if_icmp .ge 68, 3) := by decide +kernel
theorem dX12_base_19 : decode cX12_base 19 = .ok (.aload_n 0, 1) := by decide +kernel
theorem dX12_base_20 : decode cX12_base 20 = .ok (.getfield 56, 3) := by decide +kernel
theorem dX12_base_23 : decode cX12_base 23 = .ok (.iload 5, 2) := by decide +kernel
theorem dX12_base_25 : decode cX12_base 25 = .ok (.iaload, 1) := by decide +kernel
theorem dX12_base_26 : decode cX12_base 26 = .ok (.iconst 1, 1) := by decide +kernel
theorem dX12_base_27 : decode cX12_base 27 = .ok (.if_icmp .gt 51, 3) := by decide +kernel
theorem dX12_base_30 : decode cX12_base 30 = .ok (.aload_n 0, 1) := by decide +kernel
theorem dX12_base_31 : decode cX12_base 31 = .ok (.iload 5, 2) := by decide +kernel
theorem dX12_base_33 : decode cX12_base 33 = .ok (.iload_n 1, 1) := by decide +kernel
theorem dX12_base_34 : decode cX12_base 34 = .ok (.iload_n 2, 1) := by decide +kernel
theorem dX12_base_35 : decode cX12_base 35 = .ok (.iload_n 3, 1) := by decide +kernel
theorem dX12_base_36 : decode cX12_base 36 = .ok (.invokevirtual 274, 3) := by decide +kernel
theorem dX12_base_39 : decode cX12_base 39 = .ok (.ifCond .ne 6, 3) := by decide +kernel
theorem dX12_base_42 : decode cX12_base 42 = .ok (.goto 36, 3) := by decide +kernel
theorem dX12_base_45 : decode cX12_base 45 = .ok (.iload 4, 2) := by decide +kernel
theorem dX12_base_47 : decode cX12_base 47 = .ok (.aload_n 0, 1) := by decide +kernel
theorem dX12_base_48 : decode cX12_base 48 = .ok (.getfield 56, 3) := by decide +kernel
theorem dX12_base_51 : decode cX12_base 51 = .ok (.iload 5, 2) := by decide +kernel
theorem dX12_base_53 : decode cX12_base 53 = .ok (.iaload, 1) := by decide +kernel
theorem dX12_base_54 : decode cX12_base 54 = .ok (.ifCond .ne 13, 3) := by decide +kernel
theorem dX12_base_57 : decode cX12_base 57 = .ok (.aload_n 0, 1) := by decide +kernel
theorem dX12_base_58 : decode cX12_base 58 = .ok (.getfield 59, 3) := by decide +kernel
theorem dX12_base_61 : decode cX12_base 61 = .ok (.iload 5, 2) := by decide +kernel
theorem dX12_base_63 : decode cX12_base 63 = .ok (.iaload, 1) := by decide +kernel
theorem dX12_base_64 : decode cX12_base 64 = .ok (.goto 11, 3) := by decide +kernel
theorem dX12_base_67 : decode cX12_base 67 = .ok (.aload_n 0, 1) := by decide +kernel
theorem dX12_base_68 : decode cX12_base 68 = .ok (.getfield 59, 3) := by decide +kernel
theorem dX12_base_71 : decode cX12_base 71 = .ok (.iload 5, 2) := by decide +kernel
theorem dX12_base_73 : decode cX12_base 73 = .ok (.iaload, 1) := by decide +kernel
theorem dX12_base_74 : decode cX12_base 74 = .ok (.ineg, 1) := by decide +kernel
theorem dX12_base_75 : decode cX12_base 75 = .ok (.iadd, 1) := by decide +kernel
theorem dX12_base_76 : decode cX12_base 76 = .ok (.istore 4, 2) := by decide +kernel
theorem dX12_base_78 : decode cX12_base 78 = .ok (.iinc 5 1, 3) := by decide +kernel
theorem dX12_base_81 : decode cX12_base 81 = .ok (.goto (-71), 3) := by decide +kernel
theorem dX12_base_84 : decode cX12_base 84 = .ok (.iload 4, 2) := by decide +kernel
theorem dX12_base_86 : decode cX12_base 86 = .ok (.ireturn, 1) := by decide +kernel
set_option maxRecDepth 20000 in
theorem ggX12_worthOf_X12_base : GoodIn wsX12_worthOf wsX12_base := goodIn_r _ [8, 9, 10, 11, 12, 13, 7, 14, 15, 16, 17, 18, 19, 20, 21, 22, 23, 24, 25, 26, 27, 28, 29, 30, 31, 32, 1, 2, 33, 34, 35, 36, 37, 38, 39, 40, 41, 42, 43, 44, 45, 46, 47, 48, 49, 50, 51, 52, 53, 54, 55, 56, 57, 58, 59, 60, 61, 62, 63, 64, 65, 66, 67, 68, 69, 70, 71, 72, 73, 74, 75, 76, 77, 78, 79, 80, 81, 82, 83, 84, 85, 86, 87, 88, 89, 90, 91, 92, 93, 94, 95] (by decide +kernel) (by decide +kernel)
set_option maxRecDepth 20000 in
theorem gX12_worthOf_X12_base : GoodIn wsX12_worthOf (wsV RX12 278 RX12 yX12_base wsX12_base) := goodIn_app (goodIn_of _ (by decide +kernel)) ggX12_worthOf_X12_base
theorem dX12_worthOf_0 : decode cX12_worthOf 0 = .ok (.aload_n 0, 1) := by decide +kernel
theorem dX12_worthOf_1 : decode cX12_worthOf 1 = .ok (.iload_n 1, 1) := by decide +kernel
theorem dX12_worthOf_2 : decode cX12_worthOf 2 = .ok (.iload_n 2, 1) := by decide +kernel
theorem dX12_worthOf_3 : decode cX12_worthOf 3 = .ok (.iload_n 3, 1) := by decide +kernel
theorem dX12_worthOf_4 : decode cX12_worthOf 4 = .ok (.invokevirtual 278, 3) := by decide +kernel
theorem dX12_worthOf_7 : decode cX12_worthOf 7 = .ok (.istore 4, 2) := by decide +kernel
theorem dX12_worthOf_9 : decode cX12_worthOf 9 = .ok (.iload_n 2, 1) := by decide +kernel
theorem dX12_worthOf_10 : decode cX12_worthOf 10 = .ok (.iconst 2, 1) := by decide +kernel
theorem dX12_worthOf_11 : decode cX12_worthOf 11 = .ok (.irem, 1) := by decide +kernel
theorem dX12_worthOf_12 : decode cX12_worthOf 12 = .ok (.iconst 1, 1) := by decide +kernel
theorem dX12_worthOf_13 : decode cX12_worthOf 13 = .ok (.if_icmp .ne 7, 3) := by decide +kernel
theorem dX12_worthOf_16 : decode cX12_worthOf 16 = .ok (.iconst 0, 1) := by decide +kernel
theorem dX12_worthOf_17 : decode cX12_worthOf 17 = .ok (.goto 5, 3) := by decide +kernel
theorem dX12_worthOf_20 : decode cX12_worthOf 20 = .ok (.iload 4, 2) := by decide +kernel
theorem dX12_worthOf_22 : decode cX12_worthOf 22 = .ok (.istore 5, 2) := by decide +kernel
theorem dX12_worthOf_24 : decode cX12_worthOf 24 = .ok (.iload 4, 2) := by decide +kernel
theorem dX12_worthOf_26 : decode cX12_worthOf 26 = .ok (.istore 6, 2) := by decide +kernel
theorem dX12_worthOf_28 : decode cX12_worthOf 28 = .ok (.aload_n 0, 1) := by decide +kernel
theorem dX12_worthOf_29 : decode cX12_worthOf 29 = .ok (.getfield 22, 3) := by decide +kernel
theorem dX12_worthOf_32 : decode cX12_worthOf 32 = .ok (.iload_n 1, 1) := by decide +kernel
theorem dX12_worthOf_33 : decode cX12_worthOf 33 = .ok (.iaload, 1) := by decide +kernel
theorem dX12_worthOf_34 : decode cX12_worthOf 34 = .ok (.tableswitch 125 1 6 #[38, 50, 57, 66, 89, 103], 38) := by decide +kernel
theorem dX12_worthOf_72 : decode cX12_worthOf 72 = .ok (.iload 4, 2) := by decide +kernel
theorem dX12_worthOf_74 : decode cX12_worthOf 74 = .ok (.iload_n 2, 1) := by decide +kernel
theorem dX12_worthOf_75 : decode cX12_worthOf 75 = .ok (.bipush 8, 2) := by decide +kernel
theorem dX12_worthOf_77 : decode cX12_worthOf 77 = .ok (.irem, 1) := by decide +kernel
theorem dX12_worthOf_78 : decode cX12_worthOf 78 = .ok (.iadd, 1) := by decide +kernel
theorem dX12_worthOf_79 : decode cX12_worthOf 79 = .ok (.istore 6, 2) := by decide +kernel
theorem dX12_worthOf_81 : decode cX12_worthOf 81 = .ok (.goto 78, 3) := by decide +kernel
theorem dX12_worthOf_84 : decode cX12_worthOf 84 = .ok (.iload 5, 2) := by decide +kernel
theorem dX12_worthOf_86 : decode cX12_worthOf 86 = .ok (.istore 6, 2) := by decide +kernel
theorem dX12_worthOf_88 : decode cX12_worthOf 88 = .ok (.goto 71, 3) := by decide +kernel
theorem dX12_worthOf_91 : decode cX12_worthOf 91 = .ok (.iload 4, 2) := by decide +kernel
theorem dX12_worthOf_93 : decode cX12_worthOf 93 = .ok (.iconst 2, 1) := by decide +kernel
theorem dX12_worthOf_94 : decode cX12_worthOf 94 = .ok (.idiv, 1) := by decide +kernel
theorem dX12_worthOf_95 : decode cX12_worthOf 95 = .ok (.istore 6, 2) := by decide +kernel
theorem dX12_worthOf_97 : decode cX12_worthOf 97 = .ok (.goto 62, 3) := by decide +kernel
theorem dX12_worthOf_100 : decode cX12_worthOf 100 = .ok (.iload 4, 2) := by decide +kernel
theorem dX12_worthOf_102 : decode cX12_worthOf 102 = .ok (.iload_n 2, 1) := by decide +kernel
theorem dX12_worthOf_103 : decode cX12_worthOf 103 = .ok (.bipush 8, 2) := by decide +kernel
theorem dX12_worthOf_105 : decode cX12_worthOf 105 = .ok (.irem, 1) := by decide +kernel
theorem dX12_worthOf_106 : decode cX12_worthOf 106 = .ok (.iadd, 1) := by decide +kernel
theorem dX12_worthOf_107 : decode cX12_worthOf 107 = .ok (.iload_n 3, 1) := by decide +kernel
theorem dX12_worthOf_108 : decode cX12_worthOf 108 = .ok (.iconst 1, 1) := by decide +kernel
theorem dX12_worthOf_109 : decode cX12_worthOf 109 = .ok (.if_icmp .ne 7, 3) := by decide +kernel
theorem dX12_worthOf_112 : decode cX12_worthOf 112 = .ok (.iconst 2, 1) := by decide +kernel
theorem dX12_worthOf_113 : decode cX12_worthOf 113 = .ok (.goto 4, 3) := by decide +kernel
theorem dX12_worthOf_116 : decode cX12_worthOf 116 = .ok (.iconst 1, 1) := by decide +kernel
theorem dX12_worthOf_117 : decode cX12_worthOf 117 = .ok (.imul, 1) := by decide +kernel
theorem dX12_worthOf_118 : decode cX12_worthOf 118 = .ok (.istore 6, 2) := by decide +kernel
theorem dX12_worthOf_120 : decode cX12_worthOf 120 = .ok (.goto 39, 3) := by decide +kernel
theorem dX12_worthOf_123 : decode cX12_worthOf 123 = .ok (.iload 5, 2) := by decide +kernel
theorem dX12_worthOf_125 : decode cX12_worthOf 125 = .ok (.aload_n 0, 1) := by decide +kernel
theorem dX12_worthOf_126 : decode cX12_worthOf 126 = .ok (.getfield 26, 3) := by decide +kernel
theorem dX12_worthOf_129 : decode cX12_worthOf 129 = .ok (.iload_n 1, 1) := by decide +kernel
theorem dX12_worthOf_130 : decode cX12_worthOf 130 = .ok (.iaload, 1) := by decide +kernel
theorem dX12_worthOf_131 : decode cX12_worthOf 131 = .ok (.iadd, 1) := by decide +kernel
theorem dX12_worthOf_132 : decode cX12_worthOf 132 = .ok (.istore 6, 2) := by decide +kernel
theorem dX12_worthOf_134 : decode cX12_worthOf 134 = .ok (.goto 25, 3) := by decide +kernel
theorem dX12_worthOf_137 : decode cX12_worthOf 137 = .ok (.iload 4, 2) := by decide +kernel
theorem dX12_worthOf_139 : decode cX12_worthOf 139 = .ok (.iconst 2, 1) := by decide +kernel
theorem dX12_worthOf_140 : decode cX12_worthOf 140 = .ok (.idiv, 1) := by decide +kernel
theorem dX12_worthOf_141 : decode cX12_worthOf 141 = .ok (.aload_n 0, 1) := by decide +kernel
theorem dX12_worthOf_142 : decode cX12_worthOf 142 = .ok (.getfield 32, 3) := by decide +kernel
theorem dX12_worthOf_145 : decode cX12_worthOf 145 = .ok (.iconst 4, 1) := by decide +kernel
theorem dX12_worthOf_146 : decode cX12_worthOf 146 = .ok (.iload_n 1, 1) := by decide +kernel
theorem dX12_worthOf_147 : decode cX12_worthOf 147 = .ok (.imul, 1) := by decide +kernel
theorem dX12_worthOf_148 : decode cX12_worthOf 148 = .ok (.iload_n 2, 1) := by decide +kernel
theorem dX12_worthOf_149 : decode cX12_worthOf 149 = .ok (.iconst 4, 1) := by decide +kernel
theorem dX12_worthOf_150 : decode cX12_worthOf 150 = .ok (.irem, 1) := by decide +kernel
theorem dX12_worthOf_151 : decode cX12_worthOf 151 = .ok (.iadd, 1) := by decide +kernel
theorem dX12_worthOf_152 : decode cX12_worthOf 152 = .ok (.iaload, 1) := by decide +kernel
theorem dX12_worthOf_153 : decode cX12_worthOf 153 = .ok (.iadd, 1) := by decide +kernel
theorem dX12_worthOf_154 : decode cX12_worthOf 154 = .ok (.istore 6, 2) := by decide +kernel
theorem dX12_worthOf_156 : decode cX12_worthOf 156 = .ok (.goto 3, 3) := by decide +kernel
theorem dX12_worthOf_159 : decode cX12_worthOf 159 = .ok (.iload 6, 2) := by decide +kernel
theorem dX12_worthOf_161 : decode cX12_worthOf 161 = .ok (.ifCond .ge 7, 3) := by decide +kernel
theorem dX12_worthOf_164 : decode cX12_worthOf 164 = .ok (.iconst 0, 1) := by decide +kernel
theorem dX12_worthOf_165 : decode cX12_worthOf 165 = .ok (.goto 5, 3) := by decide +kernel
theorem dX12_worthOf_168 : decode cX12_worthOf 168 = .ok (.iload 6, 2) := by decide +kernel
theorem dX12_worthOf_170 : decode cX12_worthOf 170 = .ok (.ireturn, 1) := by decide +kernel
set_option maxRecDepth 20000 in
theorem ggX12_of_X12_isNeed : GoodIn wsX12_of wsX12_isNeed := goodIn_r _ [10, 11, 12, 13, 14, 9, 15, 49, 50, 51, 52, 53, 54, 55, 56, 57, 58, 59, 60, 61, 62, 63, 64, 65, 66, 67, 68, 69, 70, 71, 72, 73, 74, 75, 76, 77, 78, 79, 80, 81, 82, 83, 84, 85, 86, 87, 88, 89, 90, 91, 92, 93, 94, 95, 96, 97, 98, 99, 100, 101, 102, 103, 104, 105, 106, 107, 108, 109, 110, 111] (by decide +kernel) (by decide +kernel)
set_option maxRecDepth 20000 in
theorem gX12_of_X12_isNeed : GoodIn wsX12_of (wsV RX12 215 RX12 yX12_isNeed wsX12_isNeed) := goodIn_app (goodIn_of _ (by decide +kernel)) ggX12_of_X12_isNeed
set_option maxRecDepth 20000 in
theorem ggX12_of_X12_worthOf : GoodIn wsX12_of wsX12_worthOf := goodIn_r _ [19, 1, 2, 20, 21, 22, 23, 9, 24, 25, 26, 27, 28, 29, 30, 31, 32, 33, 34, 35, 36, 37, 38, 39, 40, 41, 42, 43, 44, 45, 46, 47, 48, 49, 50, 51, 52, 53, 54, 55, 56, 57, 58, 59, 60, 61, 62, 63, 64, 65, 66, 67, 68, 69, 70, 71, 72, 73, 74, 75, 76, 77, 78, 79, 80, 81, 82, 83, 84, 85, 86, 87, 88, 89, 90, 91, 92, 93, 94, 95, 96, 97, 98, 99, 100, 101, 102, 103, 104, 105, 106, 107, 108, 109, 110, 111] (by decide +kernel) (by decide +kernel)
set_option maxRecDepth 20000 in
theorem gX12_of_X12_worthOf : GoodIn wsX12_of (wsV RX12 282 RX12 yX12_worthOf wsX12_worthOf) := goodIn_app (goodIn_of _ (by decide +kernel)) ggX12_of_X12_worthOf
theorem dX12_of_0 : decode cX12_of 0 = .ok (.aload_n 0, 1) := by decide +kernel
theorem dX12_of_1 : decode cX12_of 1 = .ok (.iload_n 1, 1) := by decide +kernel
theorem dX12_of_2 : decode cX12_of 2 = .ok (.invokevirtual 215, 3) := by decide +kernel
theorem dX12_of_5 : decode cX12_of 5 = .ok (.ifCond .ne 5, 3) := by decide +kernel
theorem dX12_of_8 : decode cX12_of 8 = .ok (.iconst (-1), 1) := by decide +kernel
theorem dX12_of_9 : decode cX12_of 9 = .ok (.ireturn, 1) := by decide +kernel
theorem dX12_of_10 : decode cX12_of 10 = .ok (.iload_n 2, 1) := by decide +kernel
theorem dX12_of_11 : decode cX12_of 11 = .ok (.tableswitch 64 0 3 #[29, 36, 43, 50], 29) := by decide +kernel
theorem dX12_of_40 : decode cX12_of 40 = .ok (.aload_n 0, 1) := by decide +kernel
theorem dX12_of_41 : decode cX12_of 41 = .ok (.getfield 22, 3) := by decide +kernel
theorem dX12_of_44 : decode cX12_of 44 = .ok (.iload_n 1, 1) := by decide +kernel
theorem dX12_of_45 : decode cX12_of 45 = .ok (.iaload, 1) := by decide +kernel
theorem dX12_of_46 : decode cX12_of 46 = .ok (.ireturn, 1) := by decide +kernel
theorem dX12_of_47 : decode cX12_of 47 = .ok (.aload_n 0, 1) := by decide +kernel
theorem dX12_of_48 : decode cX12_of 48 = .ok (.getfield 26, 3) := by decide +kernel
theorem dX12_of_51 : decode cX12_of 51 = .ok (.iload_n 1, 1) := by decide +kernel
theorem dX12_of_52 : decode cX12_of 52 = .ok (.iaload, 1) := by decide +kernel
theorem dX12_of_53 : decode cX12_of 53 = .ok (.ireturn, 1) := by decide +kernel
theorem dX12_of_54 : decode cX12_of 54 = .ok (.aload_n 0, 1) := by decide +kernel
theorem dX12_of_55 : decode cX12_of 55 = .ok (.getfield 29, 3) := by decide +kernel
theorem dX12_of_58 : decode cX12_of 58 = .ok (.iload_n 1, 1) := by decide +kernel
theorem dX12_of_59 : decode cX12_of 59 = .ok (.iaload, 1) := by decide +kernel
theorem dX12_of_60 : decode cX12_of 60 = .ok (.ireturn, 1) := by decide +kernel
theorem dX12_of_61 : decode cX12_of 61 = .ok (.aload_n 0, 1) := by decide +kernel
theorem dX12_of_62 : decode cX12_of 62 = .ok (.iload_n 1, 1) := by decide +kernel
theorem dX12_of_63 : decode cX12_of 63 = .ok (.aload_n 0, 1) := by decide +kernel
theorem dX12_of_64 : decode cX12_of 64 = .ok (.getfield 19, 3) := by decide +kernel
theorem dX12_of_67 : decode cX12_of 67 = .ok (.aload_n 0, 1) := by decide +kernel
theorem dX12_of_68 : decode cX12_of 68 = .ok (.getfield 13, 3) := by decide +kernel
theorem dX12_of_71 : decode cX12_of 71 = .ok (.invokevirtual 282, 3) := by decide +kernel
theorem dX12_of_74 : decode cX12_of 74 = .ok (.ireturn, 1) := by decide +kernel
theorem dX12_of_75 : decode cX12_of 75 = .ok (.iconst (-1), 1) := by decide +kernel
theorem dX12_of_76 : decode cX12_of 76 = .ok (.ireturn, 1) := by decide +kernel
set_option maxRecDepth 20000 in
theorem ggX12_worth_X12_isNeed : GoodIn wsX12_worth wsX12_isNeed := goodIn_r _ [6, 7, 8, 9, 10, 5, 11, 51, 52, 53, 54, 55, 56, 57, 58, 59, 60, 61, 62, 63, 64, 65, 66, 67, 68, 69, 70, 71, 72, 73, 74, 75, 76, 77, 78, 79, 80, 81, 82, 83, 84, 85, 86, 87, 88, 89, 90, 91, 92, 93, 94, 95, 96, 97, 98, 99, 100, 101, 102, 103, 104, 105, 106, 107, 108, 109, 110, 111, 112, 113] (by decide +kernel) (by decide +kernel)
set_option maxRecDepth 20000 in
theorem gX12_worth_X12_isNeed : GoodIn wsX12_worth (wsV RX12 215 RX12 yX12_isNeed wsX12_isNeed) := goodIn_app (goodIn_of _ (by decide +kernel)) ggX12_worth_X12_isNeed
set_option maxRecDepth 20000 in
theorem ggX12_worth_X12_in : GoodIn wsX12_worth wsX12_in := goodIn_r _ [11] (by decide +kernel) (by decide +kernel)
set_option maxRecDepth 20000 in
theorem gX12_worth_X12_in : GoodIn wsX12_worth (wsV RX12 207 RX12 yX12_in wsX12_in) := goodIn_app (goodIn_of _ (by decide +kernel)) ggX12_worth_X12_in
set_option maxRecDepth 20000 in
theorem ggX12_worth_X12_isDarks : GoodIn wsX12_worth wsX12_isDarks := goodIn_r _ [15, 8, 9, 10, 5, 11] (by decide +kernel) (by decide +kernel)
set_option maxRecDepth 20000 in
theorem gX12_worth_X12_isDarks : GoodIn wsX12_worth (wsV RX12 211 RX12 yX12_isDarks wsX12_isDarks) := goodIn_app (goodIn_of _ (by decide +kernel)) ggX12_worth_X12_isDarks
set_option maxRecDepth 20000 in
theorem ggX12_worth_X12_worthOf : GoodIn wsX12_worth wsX12_worthOf := goodIn_r _ [19, 20, 21, 22, 23, 24, 25, 5, 26, 27, 28, 29, 30, 31, 32, 33, 34, 35, 36, 37, 38, 39, 40, 41, 42, 43, 44, 45, 46, 47, 48, 49, 50, 51, 52, 53, 54, 55, 56, 57, 58, 59, 60, 61, 62, 63, 64, 65, 66, 67, 68, 69, 70, 71, 72, 73, 74, 75, 76, 77, 78, 79, 80, 81, 82, 83, 84, 85, 86, 87, 88, 89, 90, 91, 92, 93, 94, 95, 96, 97, 98, 99, 100, 101, 102, 103, 104, 105, 106, 107, 108, 109, 110, 111, 112, 113] (by decide +kernel) (by decide +kernel)
set_option maxRecDepth 20000 in
theorem gX12_worth_X12_worthOf : GoodIn wsX12_worth (wsV RX12 282 RX12 yX12_worthOf wsX12_worthOf) := goodIn_app (goodIn_of _ (by decide +kernel)) ggX12_worth_X12_worthOf
theorem dX12_worth_0 : decode cX12_worth 0 = .ok (.aload_n 0, 1) := by decide +kernel
theorem dX12_worth_1 : decode cX12_worth 1 = .ok (.iload_n 1, 1) := by decide +kernel
theorem dX12_worth_2 : decode cX12_worth 2 = .ok (.invokevirtual 215, 3) := by decide +kernel
theorem dX12_worth_5 : decode cX12_worth 5 = .ok (.ifCond .ne 5, 3) := by decide +kernel
theorem dX12_worth_8 : decode cX12_worth 8 = .ok (.iconst (-1), 1) := by decide +kernel
theorem dX12_worth_9 : decode cX12_worth 9 = .ok (.ireturn, 1) := by decide +kernel
theorem dX12_worth_10 : decode cX12_worth 10 = .ok (.aload_n 0, 1) := by decide +kernel
theorem dX12_worth_11 : decode cX12_worth 11 = .ok (.iload_n 2, 1) := by decide +kernel
theorem dX12_worth_12 : decode cX12_worth 12 = .ok (.iconst 0, 1) := by decide +kernel
theorem dX12_worth_13 : decode cX12_worth 13 = .ok (.bipush 60, 2) := by decide +kernel
theorem dX12_worth_15 : decode cX12_worth 15 = .ok (.invokevirtual 207, 3) := by decide +kernel
theorem dX12_worth_18 : decode cX12_worth 18 = .ok (.ifCond .eq 26, 3) := by decide +kernel
theorem dX12_worth_21 : decode cX12_worth 21 = .ok (.aload_n 0, 1) := by decide +kernel
theorem dX12_worth_22 : decode cX12_worth 22 = .ok (.iload_n 3, 1) := by decide +kernel
theorem dX12_worth_23 : decode cX12_worth 23 = .ok (.invokevirtual 211, 3) := by decide +kernel
theorem dX12_worth_26 : decode cX12_worth 26 = .ok (.ifCond .eq 18, 3) := by decide +kernel
theorem dX12_worth_29 : decode cX12_worth 29 = .ok (.aload_n 0, 1) := by decide +kernel
theorem dX12_worth_30 : decode cX12_worth 30 = .ok (.iload_n 1, 1) := by decide +kernel
theorem dX12_worth_31 : decode cX12_worth 31 = .ok (.aload_n 0, 1) := by decide +kernel
theorem dX12_worth_32 : decode cX12_worth 32 = .ok (.getfield 19, 3) := by decide +kernel
theorem dX12_worth_35 : decode cX12_worth 35 = .ok (.iload_n 2, 1) := by decide +kernel
theorem dX12_worth_36 : decode cX12_worth 36 = .ok (.iadd, 1) := by decide +kernel
theorem dX12_worth_37 : decode cX12_worth 37 = .ok (.iload_n 3, 1) := by decide +kernel
theorem dX12_worth_38 : decode cX12_worth 38 = .ok (.invokevirtual 282, 3) := by decide +kernel
theorem dX12_worth_41 : decode cX12_worth 41 = .ok (.goto 5, 3) := by decide +kernel
theorem dX12_worth_44 : decode cX12_worth 44 = .ok (.bipush (-2), 2) := by decide +kernel
theorem dX12_worth_46 : decode cX12_worth 46 = .ok (.ireturn, 1) := by decide +kernel
theorem dX12_held_0 : decode cX12_held 0 = .ok (.iload_n 1, 1) := by decide +kernel
theorem dX12_held_1 : decode cX12_held 1 = .ok (.ldc_w 285, 3) := by decide +kernel
theorem dX12_held_4 : decode cX12_held 4 = .ok (.if_icmp .le 9, 3) := by decide +kernel
theorem dX12_held_7 : decode cX12_held 7 = .ok (.ldc_w 285, 3) := by decide +kernel
theorem dX12_held_10 : decode cX12_held 10 = .ok (.goto 17, 3) := by decide +kernel
theorem dX12_held_13 : decode cX12_held 13 = .ok (.iload_n 1, 1) := by decide +kernel
theorem dX12_held_14 : decode cX12_held 14 = .ok (.ldc_w 286, 3) := by decide +kernel
theorem dX12_held_17 : decode cX12_held 17 = .ok (.if_icmp .ge 9, 3) := by decide +kernel
theorem dX12_held_20 : decode cX12_held 20 = .ok (.ldc_w 286, 3) := by decide +kernel
theorem dX12_held_23 : decode cX12_held 23 = .ok (.goto 4, 3) := by decide +kernel
theorem dX12_held_26 : decode cX12_held 26 = .ok (.iload_n 1, 1) := by decide +kernel
theorem dX12_held_27 : decode cX12_held 27 = .ok (.ireturn, 1) := by decide +kernel
set_option maxRecDepth 20000 in
theorem ggX12_serve_X12_isNeed : GoodIn wsX12_serve wsX12_isNeed := goodIn_r _ [11, 12, 13, 14, 15, 10, 16, 62, 63, 64, 65, 66, 67, 68, 69, 70, 71, 72, 73, 74, 75, 76, 77, 78, 79, 80, 81, 82, 83, 84, 85, 86, 87, 88, 89, 90, 91, 92, 93, 94, 95, 96, 97, 98, 99, 100, 101, 102, 103, 104, 105, 106, 107, 108, 109, 110, 111, 112, 113, 114, 115, 116, 117, 118, 119, 120, 121, 122, 123, 124] (by decide +kernel) (by decide +kernel)
set_option maxRecDepth 20000 in
theorem gX12_serve_X12_isNeed : GoodIn wsX12_serve (wsV RX12 215 RX12 yX12_isNeed wsX12_isNeed) := goodIn_app (goodIn_of _ (by decide +kernel)) ggX12_serve_X12_isNeed
set_option maxRecDepth 20000 in
theorem ggX12_serve_X12_worthOf : GoodIn wsX12_serve wsX12_worthOf := goodIn_r _ [20, 21, 22, 23, 24, 25, 26, 10, 27, 28, 29, 30, 31, 32, 33, 34, 35, 36, 37, 38, 39, 40, 41, 42, 43, 44, 45, 46, 47, 48, 49, 50, 51, 62, 63, 64, 65, 66, 67, 68, 69, 70, 71, 72, 73, 74, 75, 76, 77, 78, 79, 80, 81, 82, 83, 84, 85, 86, 87, 88, 89, 90, 91, 92, 93, 94, 95, 96, 97, 98, 99, 100, 101, 102, 103, 104, 105, 106, 107, 108, 109, 110, 111, 112, 113, 114, 115, 116, 117, 118, 119, 120, 121, 122, 123, 124] (by decide +kernel) (by decide +kernel)
set_option maxRecDepth 20000 in
theorem gX12_serve_X12_worthOf : GoodIn wsX12_serve (wsV RX12 282 RX12 yX12_worthOf wsX12_worthOf) := goodIn_app (goodIn_of _ (by decide +kernel)) ggX12_serve_X12_worthOf
set_option maxRecDepth 20000 in
theorem ggX12_serve_X12_keep : GoodIn wsX12_serve wsX12_keep := goodIn_r _ [55, 28, 29, 30, 31, 32, 10, 33, 34, 35, 36, 37, 38, 39, 62, 63, 64, 65, 66, 67, 68, 69, 70, 71, 72, 73, 74, 75, 76, 77, 78, 79, 80, 81, 82, 83, 84, 85, 86, 87, 88, 89, 90, 91, 92, 93, 94, 95, 96, 97, 98, 99, 100, 101, 102, 103, 104, 105, 106, 107, 108, 109, 110, 111, 112, 113, 114, 115, 116, 117, 118, 119, 120, 121, 122, 123, 124] (by decide +kernel) (by decide +kernel)
set_option maxRecDepth 20000 in
theorem gX12_serve_X12_keep : GoodIn wsX12_serve (wsV RX12 289 RX12 yX12_keep wsX12_keep) := goodIn_app (goodIn_of _ (by decide +kernel)) ggX12_serve_X12_keep
set_option maxRecDepth 20000 in
theorem ggX12_serve_X12_held : GoodIn wsX12_serve wsX12_held := goodIn_r _ [59, 60, 61] (by decide +kernel) (by decide +kernel)
set_option maxRecDepth 20000 in
theorem gX12_serve_X12_held : GoodIn wsX12_serve (wsV RX12 292 RX12 yX12_held wsX12_held) := goodIn_app (goodIn_of _ (by decide +kernel)) ggX12_serve_X12_held
theorem dX12_serve_0 : decode cX12_serve 0 = .ok (.aload_n 0, 1) := by decide +kernel
theorem dX12_serve_1 : decode cX12_serve 1 = .ok (.iload_n 1, 1) := by decide +kernel
theorem dX12_serve_2 : decode cX12_serve 2 = .ok (.invokevirtual 215, 3) := by decide +kernel
theorem dX12_serve_5 : decode cX12_serve 5 = .ok (.ifCond .ne 7, 3) := by decide +kernel
theorem dX12_serve_8 : decode cX12_serve 8 = .ok (.ldc_w 287, 3) := by decide +kernel
theorem dX12_serve_11 : decode cX12_serve 11 = .ok (.ireturn, 1) := by decide +kernel
theorem dX12_serve_12 : decode cX12_serve 12 = .ok (.aload_n 0, 1) := by decide +kernel
theorem dX12_serve_13 : decode cX12_serve 13 = .ok (.getfield 13, 3) := by decide +kernel
theorem dX12_serve_16 : decode cX12_serve 16 = .ok (.ifCond .eq 25, 3) := by decide +kernel
theorem dX12_serve_19 : decode cX12_serve 19 = .ok (.aload_n 0, 1) := by decide +kernel
theorem dX12_serve_20 : decode cX12_serve 20 = .ok (.getfield 19, 3) := by decide +kernel
theorem dX12_serve_23 : decode cX12_serve 23 = .ok (.sipush 9999, 3) := by decide +kernel
theorem dX12_serve_26 : decode cX12_serve 26 = .ok (.if_icmp .eq 15, 3) := by decide +kernel
theorem dX12_serve_29 : decode cX12_serve 29 = .ok (.aload_n 0, 1) := by decide +kernel
theorem dX12_serve_30 : decode cX12_serve 30 = .ok (.getfield 29, 3) := by decide +kernel
theorem dX12_serve_33 : decode cX12_serve 33 = .ok (.iload_n 1, 1) := by decide +kernel
theorem dX12_serve_34 : decode cX12_serve 34 = .ok (.iaload, 1) := by decide +kernel
theorem dX12_serve_35 : decode cX12_serve 35 = .ok (.sipush 9999, 3) := by decide +kernel
theorem dX12_serve_38 : decode cX12_serve 38 = .ok (.if_icmp .ne 7, 3) := by decide +kernel
theorem dX12_serve_41 : decode cX12_serve 41 = .ok (.ldc_w 288, 3) := by decide +kernel
theorem dX12_serve_44 : decode cX12_serve 44 = .ok (.ireturn, 1) := by decide +kernel
theorem dX12_serve_45 : decode cX12_serve 45 = .ok (.aload_n 0, 1) := by decide +kernel
theorem dX12_serve_46 : decode cX12_serve 46 = .ok (.iload_n 1, 1) := by decide +kernel
theorem dX12_serve_47 : decode cX12_serve 47 = .ok (.aload_n 0, 1) := by decide +kernel
theorem dX12_serve_48 : decode cX12_serve 48 = .ok (.getfield 19, 3) := by decide +kernel
theorem dX12_serve_51 : decode cX12_serve 51 = .ok (.aload_n 0, 1) := by decide +kernel
theorem dX12_serve_52 : decode cX12_serve 52 = .ok (.getfield 13, 3) := by decide +kernel
theorem dX12_serve_55 : decode cX12_serve 55 = .ok (.invokevirtual 282, 3) := by decide +kernel
theorem dX12_serve_58 : decode cX12_serve 58 = .ok (.istore_n 2, 1) := by decide +kernel
theorem dX12_serve_59 : decode cX12_serve 59 = .ok (.aload_n 0, 1) := by decide +kernel
theorem dX12_serve_60 : decode cX12_serve 60 = .ok (.dup, 1) := by decide +kernel
theorem dX12_serve_61 : decode cX12_serve 61 = .ok (.getfield 13, 3) := by decide +kernel
theorem dX12_serve_64 : decode cX12_serve 64 = .ok (.iconst 1, 1) := by decide +kernel
theorem dX12_serve_65 : decode cX12_serve 65 = .ok (.isub, 1) := by decide +kernel
theorem dX12_serve_66 : decode cX12_serve 66 = .ok (.putfield 13, 3) := by decide +kernel
theorem dX12_serve_69 : decode cX12_serve 69 = .ok (.aload_n 0, 1) := by decide +kernel
theorem dX12_serve_70 : decode cX12_serve 70 = .ok (.getfield 29, 3) := by decide +kernel
theorem dX12_serve_73 : decode cX12_serve 73 = .ok (.iload_n 1, 1) := by decide +kernel
theorem dX12_serve_74 : decode cX12_serve 74 = .ok (.dup2, 1) := by decide +kernel
theorem dX12_serve_75 : decode cX12_serve 75 = .ok (.iaload, 1) := by decide +kernel
theorem dX12_serve_76 : decode cX12_serve 76 = .ok (.iconst 1, 1) := by decide +kernel
theorem dX12_serve_77 : decode cX12_serve 77 = .ok (.iadd, 1) := by decide +kernel
theorem dX12_serve_78 : decode cX12_serve 78 = .ok (.iastore, 1) := by decide +kernel
theorem dX12_serve_79 : decode cX12_serve 79 = .ok (.aload_n 0, 1) := by decide +kernel
theorem dX12_serve_80 : decode cX12_serve 80 = .ok (.aload_n 0, 1) := by decide +kernel
theorem dX12_serve_81 : decode cX12_serve 81 = .ok (.aload_n 0, 1) := by decide +kernel
theorem dX12_serve_82 : decode cX12_serve 82 = .ok (.getfield 16, 3) := by decide +kernel
theorem dX12_serve_85 : decode cX12_serve 85 = .ok (.iload_n 2, 1) := by decide +kernel
theorem dX12_serve_86 : decode cX12_serve 86 = .ok (.iadd, 1) := by decide +kernel
theorem dX12_serve_87 : decode cX12_serve 87 = .ok (.aload_n 0, 1) := by decide +kernel
theorem dX12_serve_88 : decode cX12_serve 88 = .ok (.invokevirtual 289, 3) := by decide +kernel
theorem dX12_serve_91 : decode cX12_serve 91 = .ok (.aload_n 0, 1) := by decide +kernel
theorem dX12_serve_92 : decode cX12_serve 92 = .ok (.getfield 13, 3) := by decide +kernel
theorem dX12_serve_95 : decode cX12_serve 95 = .ok (.imul, 1) := by decide +kernel
theorem dX12_serve_96 : decode cX12_serve 96 = .ok (.isub, 1) := by decide +kernel
theorem dX12_serve_97 : decode cX12_serve 97 = .ok (.invokevirtual 292, 3) := by decide +kernel
theorem dX12_serve_100 : decode cX12_serve 100 = .ok (.putfield 16, 3) := by decide +kernel
theorem dX12_serve_103 : decode cX12_serve 103 = .ok (.aload_n 0, 1) := by decide +kernel
theorem dX12_serve_104 : decode cX12_serve 104 = .ok (.dup, 1) := by decide +kernel
theorem dX12_serve_105 : decode cX12_serve 105 = .ok (.getfield 19, 3) := by decide +kernel
theorem dX12_serve_108 : decode cX12_serve 108 = .ok (.iconst 1, 1) := by decide +kernel
theorem dX12_serve_109 : decode cX12_serve 109 = .ok (.iadd, 1) := by decide +kernel
theorem dX12_serve_110 : decode cX12_serve 110 = .ok (.putfield 19, 3) := by decide +kernel
theorem dX12_serve_113 : decode cX12_serve 113 = .ok (.aload_n 0, 1) := by decide +kernel
theorem dX12_serve_114 : decode cX12_serve 114 = .ok (.getfield 16, 3) := by decide +kernel
theorem dX12_serve_117 : decode cX12_serve 117 = .ok (.ireturn, 1) := by decide +kernel
set_option maxRecDepth 20000 in
theorem ggX12_spare_X12_isNeed : GoodIn wsX12_spare wsX12_isNeed := goodIn_r _ [10, 11, 12, 13, 14, 9, 15, 38, 39, 40, 41, 42, 43, 44, 45, 46, 47, 48, 49, 50, 51, 52, 53, 54, 55, 56, 57, 58, 59, 60, 61, 62, 63, 64, 65, 66, 67, 68, 69, 70, 71, 72, 73, 74, 75, 76, 77, 78, 79, 80, 81, 82, 83, 84, 85, 86, 87, 88, 89, 90, 91, 92, 93, 94, 95, 96, 97, 98, 99, 100] (by decide +kernel) (by decide +kernel)
set_option maxRecDepth 20000 in
theorem gX12_spare_X12_isNeed : GoodIn wsX12_spare (wsV RX12 215 RX12 yX12_isNeed wsX12_isNeed) := goodIn_app (goodIn_of _ (by decide +kernel)) ggX12_spare_X12_isNeed
set_option maxRecDepth 20000 in
theorem ggX12_spare_X12_keep : GoodIn wsX12_spare wsX12_keep := goodIn_r _ [19, 20, 21, 22, 23, 24, 9, 25, 26, 27, 28, 29, 30, 31, 38, 39, 40, 41, 42, 43, 44, 45, 46, 47, 48, 49, 50, 51, 52, 53, 54, 55, 56, 57, 58, 59, 60, 61, 62, 63, 64, 65, 66, 67, 68, 69, 70, 71, 72, 73, 74, 75, 76, 77, 78, 79, 80, 81, 82, 83, 84, 85, 86, 87, 88, 89, 90, 91, 92, 93, 94, 95, 96, 97, 98, 99, 100] (by decide +kernel) (by decide +kernel)
set_option maxRecDepth 20000 in
theorem gX12_spare_X12_keep : GoodIn wsX12_spare (wsV RX12 289 RX12 yX12_keep wsX12_keep) := goodIn_app (goodIn_of _ (by decide +kernel)) ggX12_spare_X12_keep
set_option maxRecDepth 20000 in
theorem ggX12_spare_X12_held : GoodIn wsX12_spare wsX12_held := goodIn_r _ [35, 36, 37] (by decide +kernel) (by decide +kernel)
set_option maxRecDepth 20000 in
theorem gX12_spare_X12_held : GoodIn wsX12_spare (wsV RX12 292 RX12 yX12_held wsX12_held) := goodIn_app (goodIn_of _ (by decide +kernel)) ggX12_spare_X12_held
theorem dX12_spare_0 : decode cX12_spare 0 = .ok (.aload_n 0, 1) := by decide +kernel
theorem dX12_spare_1 : decode cX12_spare 1 = .ok (.iload_n 1, 1) := by decide +kernel
theorem dX12_spare_2 : decode cX12_spare 2 = .ok (.invokevirtual 215, 3) := by decide +kernel
theorem dX12_spare_5 : decode cX12_spare 5 = .ok (.ifCond .ne 7, 3) := by decide +kernel
theorem dX12_spare_8 : decode cX12_spare 8 = .ok (.ldc_w 287, 3) := by decide +kernel
theorem dX12_spare_11 : decode cX12_spare 11 = .ok (.ireturn, 1) := by decide +kernel
theorem dX12_spare_12 : decode cX12_spare 12 = .ok (.aload_n 0, 1) := by decide +kernel
theorem dX12_spare_13 : decode cX12_spare 13 = .ok (.getfield 19, 3) := by decide +kernel
theorem dX12_spare_16 : decode cX12_spare 16 = .ok (.sipush 9999, 3) := by decide +kernel
theorem dX12_spare_19 : decode cX12_spare 19 = .ok (.if_icmp .ne 7, 3) := by decide +kernel
theorem dX12_spare_22 : decode cX12_spare 22 = .ok (.ldc_w 288, 3) := by decide +kernel
theorem dX12_spare_25 : decode cX12_spare 25 = .ok (.ireturn, 1) := by decide +kernel
theorem dX12_spare_26 : decode cX12_spare 26 = .ok (.aload_n 0, 1) := by decide +kernel
theorem dX12_spare_27 : decode cX12_spare 27 = .ok (.aload_n 0, 1) := by decide +kernel
theorem dX12_spare_28 : decode cX12_spare 28 = .ok (.aload_n 0, 1) := by decide +kernel
theorem dX12_spare_29 : decode cX12_spare 29 = .ok (.getfield 16, 3) := by decide +kernel
theorem dX12_spare_32 : decode cX12_spare 32 = .ok (.aload_n 0, 1) := by decide +kernel
theorem dX12_spare_33 : decode cX12_spare 33 = .ok (.invokevirtual 289, 3) := by decide +kernel
theorem dX12_spare_36 : decode cX12_spare 36 = .ok (.aload_n 0, 1) := by decide +kernel
theorem dX12_spare_37 : decode cX12_spare 37 = .ok (.getfield 13, 3) := by decide +kernel
theorem dX12_spare_40 : decode cX12_spare 40 = .ok (.imul, 1) := by decide +kernel
theorem dX12_spare_41 : decode cX12_spare 41 = .ok (.isub, 1) := by decide +kernel
theorem dX12_spare_42 : decode cX12_spare 42 = .ok (.invokevirtual 292, 3) := by decide +kernel
theorem dX12_spare_45 : decode cX12_spare 45 = .ok (.putfield 16, 3) := by decide +kernel
theorem dX12_spare_48 : decode cX12_spare 48 = .ok (.aload_n 0, 1) := by decide +kernel
theorem dX12_spare_49 : decode cX12_spare 49 = .ok (.dup, 1) := by decide +kernel
theorem dX12_spare_50 : decode cX12_spare 50 = .ok (.getfield 19, 3) := by decide +kernel
theorem dX12_spare_53 : decode cX12_spare 53 = .ok (.iconst 1, 1) := by decide +kernel
theorem dX12_spare_54 : decode cX12_spare 54 = .ok (.iadd, 1) := by decide +kernel
theorem dX12_spare_55 : decode cX12_spare 55 = .ok (.putfield 19, 3) := by decide +kernel
theorem dX12_spare_58 : decode cX12_spare 58 = .ok (.aload_n 0, 1) := by decide +kernel
theorem dX12_spare_59 : decode cX12_spare 59 = .ok (.getfield 16, 3) := by decide +kernel
theorem dX12_spare_62 : decode cX12_spare 62 = .ok (.ireturn, 1) := by decide +kernel
set_option maxRecDepth 20000 in
theorem ggX12_told_X12_keep : GoodIn wsX12_told wsX12_keep := goodIn_r _ [9, 10, 11, 12, 13, 14, 8, 15, 16, 17, 18, 19, 20, 21, 22, 23, 24, 25, 26, 27, 28, 29, 30, 31, 32, 33, 34, 35, 36, 37, 38, 39, 40, 41, 42, 43, 44, 45, 46, 47, 48, 49, 50, 51, 52, 53, 54, 55, 56, 57, 58, 59, 60, 61, 62, 63, 64, 65, 66, 67, 68, 69, 70, 71, 72, 73, 74, 75, 76, 77, 78, 79, 80, 81, 82, 83, 84] (by decide +kernel) (by decide +kernel)
set_option maxRecDepth 20000 in
theorem gX12_told_X12_keep : GoodIn wsX12_told (wsV RX12 289 RX12 yX12_keep wsX12_keep) := goodIn_app (goodIn_of _ (by decide +kernel)) ggX12_told_X12_keep
theorem dX12_told_0 : decode cX12_told 0 = .ok (.iload_n 1, 1) := by decide +kernel
theorem dX12_told_1 : decode cX12_told 1 = .ok (.tableswitch 51 0 3 #[31, 36, 41, 46], 31) := by decide +kernel
theorem dX12_told_32 : decode cX12_told 32 = .ok (.aload_n 0, 1) := by decide +kernel
theorem dX12_told_33 : decode cX12_told 33 = .ok (.getfield 19, 3) := by decide +kernel
theorem dX12_told_36 : decode cX12_told 36 = .ok (.ireturn, 1) := by decide +kernel
theorem dX12_told_37 : decode cX12_told 37 = .ok (.aload_n 0, 1) := by decide +kernel
theorem dX12_told_38 : decode cX12_told 38 = .ok (.getfield 13, 3) := by decide +kernel
theorem dX12_told_41 : decode cX12_told 41 = .ok (.ireturn, 1) := by decide +kernel
theorem dX12_told_42 : decode cX12_told 42 = .ok (.aload_n 0, 1) := by decide +kernel
theorem dX12_told_43 : decode cX12_told 43 = .ok (.getfield 16, 3) := by decide +kernel
theorem dX12_told_46 : decode cX12_told 46 = .ok (.ireturn, 1) := by decide +kernel
theorem dX12_told_47 : decode cX12_told 47 = .ok (.aload_n 0, 1) := by decide +kernel
theorem dX12_told_48 : decode cX12_told 48 = .ok (.invokevirtual 289, 3) := by decide +kernel
theorem dX12_told_51 : decode cX12_told 51 = .ok (.ireturn, 1) := by decide +kernel
theorem dX12_told_52 : decode cX12_told 52 = .ok (.ldc_w 287, 3) := by decide +kernel
theorem dX12_told_55 : decode cX12_told 55 = .ok (.ireturn, 1) := by decide +kernel
theorem dX12_ways_0 : decode cX12_ways 0 = .ok (.lconst 1, 1) := by decide +kernel
theorem dX12_ways_1 : decode cX12_ways 1 = .ok (.lstore_n 2, 1) := by decide +kernel
theorem dX12_ways_2 : decode cX12_ways 2 = .ok (.iconst 0, 1) := by decide +kernel
theorem dX12_ways_3 : decode cX12_ways 3 = .ok (.istore 4, 2) := by decide +kernel
theorem dX12_ways_5 : decode cX12_ways 5 = .ok (.iload 4, 2) := by decide +kernel
theorem dX12_ways_7 : decode cX12_ways 7 = .ok (.iload_n 1, 1) := by decide +kernel
theorem dX12_ways_8 : decode cX12_ways 8 = .ok (.if_icmp .ge 17, 3) := by decide +kernel
theorem dX12_ways_11 : decode cX12_ways 11 = .ok (.lload_n 2, 1) := by decide +kernel
theorem dX12_ways_12 : decode cX12_ways 12 = .ok (.aload_n 0, 1) := by decide +kernel
theorem dX12_ways_13 : decode cX12_ways 13 = .ok (.getfield 7, 3) := by decide +kernel
theorem dX12_ways_16 : decode cX12_ways 16 = .ok (.i2l, 1) := by decide +kernel
theorem dX12_ways_17 : decode cX12_ways 17 = .ok (.lmul, 1) := by decide +kernel
theorem dX12_ways_18 : decode cX12_ways 18 = .ok (.lstore_n 2, 1) := by decide +kernel
theorem dX12_ways_19 : decode cX12_ways 19 = .ok (.iinc 4 1, 3) := by decide +kernel
theorem dX12_ways_22 : decode cX12_ways 22 = .ok (.goto (-17), 3) := by decide +kernel
theorem dX12_ways_25 : decode cX12_ways 25 = .ok (.lload_n 2, 1) := by decide +kernel
theorem dX12_ways_26 : decode cX12_ways 26 = .ok (.lreturn, 1) := by decide +kernel
set_option maxRecDepth 20000 in
theorem ggX12_ifServed_X12_ways : GoodIn wsX12_ifServed wsX12_ways := goodIn_r _ [7, 8, 48, 49, 50, 51, 52, 53, 54, 55, 56, 57, 58, 59, 60, 61, 62, 63, 64, 65, 66, 67, 68, 69, 70, 71, 72, 73, 74, 75, 76, 77, 78, 79, 80, 81, 82, 83, 84, 85, 86, 87, 88, 89, 90, 91, 92, 93, 94, 95, 96, 97, 98, 99, 100, 101, 102, 103, 104, 105, 106, 107, 108, 109, 110] (by decide +kernel) (by decide +kernel)
set_option maxRecDepth 20000 in
theorem gX12_ifServed_X12_ways : GoodIn wsX12_ifServed (wsV RX12 295 RX12 yX12_ways wsX12_ways) := goodIn_app (goodIn_of _ (by decide +kernel)) ggX12_ifServed_X12_ways
set_option maxRecDepth 20000 in
theorem ggX12_ifServed_X12_worthOf : GoodIn wsX12_ifServed wsX12_worthOf := goodIn_r _ [12, 13, 14, 15, 16, 17, 18, 6, 19, 20, 21, 22, 23, 24, 25, 26, 27, 28, 29, 30, 31, 32, 33, 34, 35, 36, 37, 38, 39, 40, 41, 42, 43, 48, 49, 50, 51, 52, 53, 54, 55, 56, 57, 58, 59, 60, 61, 62, 63, 64, 65, 66, 67, 68, 69, 70, 71, 72, 73, 74, 75, 76, 77, 78, 79, 80, 81, 82, 83, 84, 85, 86, 87, 88, 89, 90, 91, 92, 93, 94, 95, 96, 97, 98, 99, 100, 101, 102, 103, 104, 105, 106, 107, 108, 109, 110] (by decide +kernel) (by decide +kernel)
set_option maxRecDepth 20000 in
theorem gX12_ifServed_X12_worthOf : GoodIn wsX12_ifServed (wsV RX12 282 RX12 yX12_worthOf wsX12_worthOf) := goodIn_app (goodIn_of _ (by decide +kernel)) ggX12_ifServed_X12_worthOf
set_option maxRecDepth 20000 in
theorem ggX12_ifServed_X12_keep : GoodIn wsX12_ifServed wsX12_keep := goodIn_r _ [47, 20, 21, 22, 23, 24, 6, 25, 26, 27, 28, 29, 30, 31, 48, 49, 50, 51, 52, 53, 54, 55, 56, 57, 58, 59, 60, 61, 62, 63, 64, 65, 66, 67, 68, 69, 70, 71, 72, 73, 74, 75, 76, 77, 78, 79, 80, 81, 82, 83, 84, 85, 86, 87, 88, 89, 90, 91, 92, 93, 94, 95, 96, 97, 98, 99, 100, 101, 102, 103, 104, 105, 106, 107, 108, 109, 110] (by decide +kernel) (by decide +kernel)
set_option maxRecDepth 20000 in
theorem gX12_ifServed_X12_keep : GoodIn wsX12_ifServed (wsV RX12 289 RX12 yX12_keep wsX12_keep) := goodIn_app (goodIn_of _ (by decide +kernel)) ggX12_ifServed_X12_keep
theorem dX12_ifServed_0 : decode cX12_ifServed 0 = .ok (.aload_n 0, 1) := by decide +kernel
theorem dX12_ifServed_1 : decode cX12_ifServed 1 = .ok (.iload_n 3, 1) := by decide +kernel
theorem dX12_ifServed_2 : decode cX12_ifServed 2 = .ok (.iload_n 2, 1) := by decide +kernel
theorem dX12_ifServed_3 : decode cX12_ifServed 3 = .ok (.isub, 1) := by decide +kernel
theorem dX12_ifServed_4 : decode cX12_ifServed 4 = .ok (.iconst 1, 1) := by decide +kernel
theorem dX12_ifServed_5 : decode cX12_ifServed 5 = .ok (.isub, 1) := by decide +kernel
theorem dX12_ifServed_6 : decode cX12_ifServed 6 = .ok (.invokevirtual 295, 3) := by decide +kernel
theorem dX12_ifServed_9 : decode cX12_ifServed 9 = .ok (.aload_n 0, 1) := by decide +kernel
theorem dX12_ifServed_10 : decode cX12_ifServed 10 = .ok (.iload_n 1, 1) := by decide +kernel
theorem dX12_ifServed_11 : decode cX12_ifServed 11 = .ok (.aload_n 0, 1) := by decide +kernel
theorem dX12_ifServed_12 : decode cX12_ifServed 12 = .ok (.getfield 19, 3) := by decide +kernel
theorem dX12_ifServed_15 : decode cX12_ifServed 15 = .ok (.iload_n 2, 1) := by decide +kernel
theorem dX12_ifServed_16 : decode cX12_ifServed 16 = .ok (.iadd, 1) := by decide +kernel
theorem dX12_ifServed_17 : decode cX12_ifServed 17 = .ok (.iload 4, 2) := by decide +kernel
theorem dX12_ifServed_19 : decode cX12_ifServed 19 = .ok (.invokevirtual 282, 3) := by decide +kernel
theorem dX12_ifServed_22 : decode cX12_ifServed 22 = .ok (.aload_n 0, 1) := by decide +kernel
theorem dX12_ifServed_23 : decode cX12_ifServed 23 = .ok (.invokevirtual 289, 3) := by decide +kernel
theorem dX12_ifServed_26 : decode cX12_ifServed 26 = .ok (.iload 4, 2) := by decide +kernel
theorem dX12_ifServed_28 : decode cX12_ifServed 28 = .ok (.iconst 1, 1) := by decide +kernel
theorem dX12_ifServed_29 : decode cX12_ifServed 29 = .ok (.isub, 1) := by decide +kernel
theorem dX12_ifServed_30 : decode cX12_ifServed 30 = .ok (.imul, 1) := by decide +kernel
theorem dX12_ifServed_31 : decode cX12_ifServed 31 = .ok (.isub, 1) := by decide +kernel
theorem dX12_ifServed_32 : decode cX12_ifServed 32 = .ok (.i2l, 1) := by decide +kernel
theorem dX12_ifServed_33 : decode cX12_ifServed 33 = .ok (.lmul, 1) := by decide +kernel
theorem dX12_ifServed_34 : decode cX12_ifServed 34 = .ok (.aload_n 0, 1) := by decide +kernel
theorem dX12_ifServed_35 : decode cX12_ifServed 35 = .ok (.getfield 90, 3) := by decide +kernel
theorem dX12_ifServed_38 : decode cX12_ifServed 38 = .ok (.bipush 10, 2) := by decide +kernel
theorem dX12_ifServed_40 : decode cX12_ifServed 40 = .ok (.iload_n 2, 1) := by decide +kernel
theorem dX12_ifServed_41 : decode cX12_ifServed 41 = .ok (.imul, 1) := by decide +kernel
theorem dX12_ifServed_42 : decode cX12_ifServed 42 = .ok (.bipush 10, 2) := by decide +kernel
theorem dX12_ifServed_44 : decode cX12_ifServed 44 = .ok (.iadd, 1) := by decide +kernel
theorem dX12_ifServed_45 : decode cX12_ifServed 45 = .ok (.iload 4, 2) := by decide +kernel
theorem dX12_ifServed_47 : decode cX12_ifServed 47 = .ok (.iadd, 1) := by decide +kernel
theorem dX12_ifServed_48 : decode cX12_ifServed 48 = .ok (.iconst 1, 1) := by decide +kernel
theorem dX12_ifServed_49 : decode cX12_ifServed 49 = .ok (.isub, 1) := by decide +kernel
theorem dX12_ifServed_50 : decode cX12_ifServed 50 = .ok (.laload, 1) := by decide +kernel
theorem dX12_ifServed_51 : decode cX12_ifServed 51 = .ok (.ladd, 1) := by decide +kernel
theorem dX12_ifServed_52 : decode cX12_ifServed 52 = .ok (.lreturn, 1) := by decide +kernel
set_option maxRecDepth 20000 in
theorem ggX12_ifSpared_X12_ways : GoodIn wsX12_ifSpared wsX12_ways := goodIn_r _ [6, 7, 24, 25, 26, 27, 28, 29, 30, 31, 32, 33, 34, 35, 36, 37, 38, 39, 40, 41, 42, 43, 44, 45, 46, 47, 48, 49, 50, 51, 52, 53, 54, 55, 56, 57, 58, 59, 60, 61, 62, 63, 64, 65, 66, 67, 68, 69, 70, 71, 72, 73, 74, 75, 76, 77, 78, 79, 80, 81, 82, 83, 84, 85, 86] (by decide +kernel) (by decide +kernel)
set_option maxRecDepth 20000 in
theorem gX12_ifSpared_X12_ways : GoodIn wsX12_ifSpared (wsV RX12 295 RX12 yX12_ways wsX12_ways) := goodIn_app (goodIn_of _ (by decide +kernel)) ggX12_ifSpared_X12_ways
set_option maxRecDepth 20000 in
theorem ggX12_ifSpared_X12_keep : GoodIn wsX12_ifSpared wsX12_keep := goodIn_r _ [11, 12, 13, 14, 15, 16, 5, 17, 18, 19, 20, 21, 22, 23, 24, 25, 26, 27, 28, 29, 30, 31, 32, 33, 34, 35, 36, 37, 38, 39, 40, 41, 42, 43, 44, 45, 46, 47, 48, 49, 50, 51, 52, 53, 54, 55, 56, 57, 58, 59, 60, 61, 62, 63, 64, 65, 66, 67, 68, 69, 70, 71, 72, 73, 74, 75, 76, 77, 78, 79, 80, 81, 82, 83, 84, 85, 86] (by decide +kernel) (by decide +kernel)
set_option maxRecDepth 20000 in
theorem gX12_ifSpared_X12_keep : GoodIn wsX12_ifSpared (wsV RX12 289 RX12 yX12_keep wsX12_keep) := goodIn_app (goodIn_of _ (by decide +kernel)) ggX12_ifSpared_X12_keep
theorem dX12_ifSpared_0 : decode cX12_ifSpared 0 = .ok (.aload_n 0, 1) := by decide +kernel
theorem dX12_ifSpared_1 : decode cX12_ifSpared 1 = .ok (.iload_n 2, 1) := by decide +kernel
theorem dX12_ifSpared_2 : decode cX12_ifSpared 2 = .ok (.iload_n 1, 1) := by decide +kernel
theorem dX12_ifSpared_3 : decode cX12_ifSpared 3 = .ok (.isub, 1) := by decide +kernel
theorem dX12_ifSpared_4 : decode cX12_ifSpared 4 = .ok (.iconst 1, 1) := by decide +kernel
theorem dX12_ifSpared_5 : decode cX12_ifSpared 5 = .ok (.isub, 1) := by decide +kernel
theorem dX12_ifSpared_6 : decode cX12_ifSpared 6 = .ok (.invokevirtual 295, 3) := by decide +kernel
theorem dX12_ifSpared_9 : decode cX12_ifSpared 9 = .ok (.aload_n 0, 1) := by decide +kernel
theorem dX12_ifSpared_10 : decode cX12_ifSpared 10 = .ok (.invokevirtual 289, 3) := by decide +kernel
theorem dX12_ifSpared_13 : decode cX12_ifSpared 13 = .ok (.ineg, 1) := by decide +kernel
theorem dX12_ifSpared_14 : decode cX12_ifSpared 14 = .ok (.iload_n 3, 1) := by decide +kernel
theorem dX12_ifSpared_15 : decode cX12_ifSpared 15 = .ok (.imul, 1) := by decide +kernel
theorem dX12_ifSpared_16 : decode cX12_ifSpared 16 = .ok (.i2l, 1) := by decide +kernel
theorem dX12_ifSpared_17 : decode cX12_ifSpared 17 = .ok (.lmul, 1) := by decide +kernel
theorem dX12_ifSpared_18 : decode cX12_ifSpared 18 = .ok (.aload_n 0, 1) := by decide +kernel
theorem dX12_ifSpared_19 : decode cX12_ifSpared 19 = .ok (.getfield 90, 3) := by decide +kernel
theorem dX12_ifSpared_22 : decode cX12_ifSpared 22 = .ok (.bipush 10, 2) := by decide +kernel
theorem dX12_ifSpared_24 : decode cX12_ifSpared 24 = .ok (.iload_n 1, 1) := by decide +kernel
theorem dX12_ifSpared_25 : decode cX12_ifSpared 25 = .ok (.imul, 1) := by decide +kernel
theorem dX12_ifSpared_26 : decode cX12_ifSpared 26 = .ok (.bipush 10, 2) := by decide +kernel
theorem dX12_ifSpared_28 : decode cX12_ifSpared 28 = .ok (.iadd, 1) := by decide +kernel
theorem dX12_ifSpared_29 : decode cX12_ifSpared 29 = .ok (.iload_n 3, 1) := by decide +kernel
theorem dX12_ifSpared_30 : decode cX12_ifSpared 30 = .ok (.iadd, 1) := by decide +kernel
theorem dX12_ifSpared_31 : decode cX12_ifSpared 31 = .ok (.laload, 1) := by decide +kernel
theorem dX12_ifSpared_32 : decode cX12_ifSpared 32 = .ok (.ladd, 1) := by decide +kernel
theorem dX12_ifSpared_33 : decode cX12_ifSpared 33 = .ok (.lreturn, 1) := by decide +kernel
set_option maxRecDepth 20000 in
theorem ggX12_gainOf_X12_ifSpared : GoodIn wsX12_gainOf wsX12_ifSpared := goodIn_r _ [7, 8, 9, 10, 11, 6, 12, 13, 14, 15, 16, 17, 18, 19, 20, 21, 22, 23, 24, 25, 26, 27, 28, 29, 61, 62, 63, 64, 65, 66, 67, 68, 69, 70, 71, 72, 73, 74, 75, 76, 77, 78, 79, 80, 81, 82, 83, 84, 85, 86, 87, 88, 89, 90, 91, 92, 93, 94, 95, 96, 97, 98, 99, 100, 101, 102, 103, 104, 105, 106, 107, 108, 109, 110, 111, 112, 113, 114, 115, 116, 117, 118, 119, 120, 121, 122, 123] (by decide +kernel) (by decide +kernel)
set_option maxRecDepth 20000 in
theorem gX12_gainOf_X12_ifSpared : GoodIn wsX12_gainOf (wsV RX12 299 RX12 yX12_ifSpared wsX12_ifSpared) := goodIn_app (goodIn_of _ (by decide +kernel)) ggX12_gainOf_X12_ifSpared
set_option maxRecDepth 20000 in
theorem ggX12_gainOf_X12_ifServed : GoodIn wsX12_gainOf wsX12_ifServed := goodIn_r _ [33, 1, 8, 9, 10, 11, 6, 12, 13, 34, 35, 36, 37, 38, 39, 40, 41, 42, 43, 44, 18, 19, 20, 21, 22, 23, 24, 25, 26, 27, 28, 29, 45, 46, 47, 48, 49, 50, 51, 52, 53, 54, 55, 56, 14, 15, 16, 17, 61, 62, 63, 64, 65, 66, 67, 68, 69, 70, 71, 72, 73, 74, 75, 76, 77, 78, 79, 80, 81, 82, 83, 84, 85, 86, 87, 88, 89, 90, 91, 92, 93, 94, 95, 96, 97, 98, 99, 100, 101, 102, 103, 104, 105, 106, 107, 108, 109, 110, 111, 112, 113, 114, 115, 116, 117, 118, 119, 120, 121, 122, 123] (by decide +kernel) (by decide +kernel)
set_option maxRecDepth 20000 in
theorem gX12_gainOf_X12_ifServed : GoodIn wsX12_gainOf (wsV RX12 303 RX12 yX12_ifServed wsX12_ifServed) := goodIn_app (goodIn_of _ (by decide +kernel)) ggX12_gainOf_X12_ifServed
set_option maxRecDepth 20000 in
theorem ggX12_gainOf_X12_worthOf : GoodIn wsX12_gainOf wsX12_worthOf := goodIn_r _ [37, 38, 39, 40, 41, 42, 43, 6, 44, 18, 19, 20, 21, 22, 23, 24, 25, 26, 27, 28, 29, 45, 46, 47, 48, 49, 50, 51, 52, 53, 54, 55, 56, 61, 62, 63, 64, 65, 66, 67, 68, 69, 70, 71, 72, 73, 74, 75, 76, 77, 78, 79, 80, 81, 82, 83, 84, 85, 86, 87, 88, 89, 90, 91, 92, 93, 94, 95, 96, 97, 98, 99, 100, 101, 102, 103, 104, 105, 106, 107, 108, 109, 110, 111, 112, 113, 114, 115, 116, 117, 118, 119, 120, 121, 122, 123] (by decide +kernel) (by decide +kernel)
set_option maxRecDepth 20000 in
theorem gX12_gainOf_X12_worthOf : GoodIn wsX12_gainOf (wsV RX12 282 RX12 yX12_worthOf wsX12_worthOf) := goodIn_app (goodIn_of _ (by decide +kernel)) ggX12_gainOf_X12_worthOf
set_option maxRecDepth 20000 in
theorem ggX12_gainOf_X12_has : GoodIn wsX12_gainOf wsX12_has := goodIn_r _ [60] (by decide +kernel) (by decide +kernel)
set_option maxRecDepth 20000 in
theorem gX12_gainOf_X12_has : GoodIn wsX12_gainOf (wsV RX12 203 RX12 yX12_has wsX12_has) := goodIn_app (goodIn_of _ (by decide +kernel)) ggX12_gainOf_X12_has
theorem dX12_gainOf_0 : decode cX12_gainOf 0 = .ok (.aload_n 0, 1) := by decide +kernel
theorem dX12_gainOf_1 : decode cX12_gainOf 1 = .ok (.iload_n 3, 1) := by decide +kernel
theorem dX12_gainOf_2 : decode cX12_gainOf 2 = .ok (.iload 4, 2) := by decide +kernel
theorem dX12_gainOf_4 : decode cX12_gainOf 4 = .ok (.iload 5, 2) := by decide +kernel
theorem dX12_gainOf_6 : decode cX12_gainOf 6 = .ok (.invokevirtual 299, 3) := by decide +kernel
theorem dX12_gainOf_9 : decode cX12_gainOf 9 = .ok (.lstore 6, 2) := by decide +kernel
theorem dX12_gainOf_11 : decode cX12_gainOf 11 = .ok (.iload 5, 2) := by decide +kernel
theorem dX12_gainOf_13 : decode cX12_gainOf 13 = .ok (.ifCond .ne 6, 3) := by decide +kernel
theorem dX12_gainOf_16 : decode cX12_gainOf 16 = .ok (.lload 6, 2) := by decide +kernel
theorem dX12_gainOf_18 : decode cX12_gainOf 18 = .ok (.lreturn, 1) := by decide +kernel
theorem dX12_gainOf_19 : decode cX12_gainOf 19 = .ok (.aload_n 0, 1) := by decide +kernel
theorem dX12_gainOf_20 : decode cX12_gainOf 20 = .ok (.iload_n 2, 1) := by decide +kernel
theorem dX12_gainOf_21 : decode cX12_gainOf 21 = .ok (.iload_n 3, 1) := by decide +kernel
theorem dX12_gainOf_22 : decode cX12_gainOf 22 = .ok (.iload 4, 2) := by decide +kernel
theorem dX12_gainOf_24 : decode cX12_gainOf 24 = .ok (.iload 5, 2) := by decide +kernel
theorem dX12_gainOf_26 : decode cX12_gainOf 26 = .ok (.invokevirtual 303, 3) := by decide +kernel
theorem dX12_gainOf_29 : decode cX12_gainOf 29 = .ok (.lstore 8, 2) := by decide +kernel
theorem dX12_gainOf_31 : decode cX12_gainOf 31 = .ok (.iload_n 1, 1) := by decide +kernel
theorem dX12_gainOf_32 : decode cX12_gainOf 32 = .ok (.ifCond .ne 19, 3) := by decide +kernel
theorem dX12_gainOf_35 : decode cX12_gainOf 35 = .ok (.lload 8, 2) := by decide +kernel
theorem dX12_gainOf_37 : decode cX12_gainOf 37 = .ok (.lload 6, 2) := by decide +kernel
theorem dX12_gainOf_39 : decode cX12_gainOf 39 = .ok (.lcmp, 1) := by decide +kernel
theorem dX12_gainOf_40 : decode cX12_gainOf 40 = .ok (.ifCond .le 8, 3) := by decide +kernel
theorem dX12_gainOf_43 : decode cX12_gainOf 43 = .ok (.lload 8, 2) := by decide +kernel
theorem dX12_gainOf_45 : decode cX12_gainOf 45 = .ok (.goto 5, 3) := by decide +kernel
theorem dX12_gainOf_48 : decode cX12_gainOf 48 = .ok (.lload 6, 2) := by decide +kernel
theorem dX12_gainOf_50 : decode cX12_gainOf 50 = .ok (.lreturn, 1) := by decide +kernel
theorem dX12_gainOf_51 : decode cX12_gainOf 51 = .ok (.iload_n 1, 1) := by decide +kernel
theorem dX12_gainOf_52 : decode cX12_gainOf 52 = .ok (.iconst 1, 1) := by decide +kernel
theorem dX12_gainOf_53 : decode cX12_gainOf 53 = .ok (.if_icmp .ne 27, 3) := by decide +kernel
theorem dX12_gainOf_56 : decode cX12_gainOf 56 = .ok (.aload_n 0, 1) := by decide +kernel
theorem dX12_gainOf_57 : decode cX12_gainOf 57 = .ok (.iload_n 2, 1) := by decide +kernel
theorem dX12_gainOf_58 : decode cX12_gainOf 58 = .ok (.aload_n 0, 1) := by decide +kernel
theorem dX12_gainOf_59 : decode cX12_gainOf 59 = .ok (.getfield 19, 3) := by decide +kernel
theorem dX12_gainOf_62 : decode cX12_gainOf 62 = .ok (.iload_n 3, 1) := by decide +kernel
theorem dX12_gainOf_63 : decode cX12_gainOf 63 = .ok (.iadd, 1) := by decide +kernel
theorem dX12_gainOf_64 : decode cX12_gainOf 64 = .ok (.iload 5, 2) := by decide +kernel
theorem dX12_gainOf_66 : decode cX12_gainOf 66 = .ok (.invokevirtual 282, 3) := by decide +kernel
theorem dX12_gainOf_69 : decode cX12_gainOf 69 = .ok (.ifCond .le 7, 3) := by decide +kernel
theorem dX12_gainOf_72 : decode cX12_gainOf 72 = .ok (.iconst 1, 1) := by decide +kernel
theorem dX12_gainOf_73 : decode cX12_gainOf 73 = .ok (.goto 16, 3) := by decide +kernel
theorem dX12_gainOf_76 : decode cX12_gainOf 76 = .ok (.iconst 0, 1) := by decide +kernel
theorem dX12_gainOf_77 : decode cX12_gainOf 77 = .ok (.goto 12, 3) := by decide +kernel
theorem dX12_gainOf_80 : decode cX12_gainOf 80 = .ok (.aload_n 0, 1) := by decide +kernel
theorem dX12_gainOf_81 : decode cX12_gainOf 81 = .ok (.aload_n 0, 1) := by decide +kernel
theorem dX12_gainOf_82 : decode cX12_gainOf 82 = .ok (.getfield 94, 3) := by decide +kernel
theorem dX12_gainOf_85 : decode cX12_gainOf 85 = .ok (.iload_n 2, 1) := by decide +kernel
theorem dX12_gainOf_86 : decode cX12_gainOf 86 = .ok (.invokevirtual 203, 3) := by decide +kernel
theorem dX12_gainOf_89 : decode cX12_gainOf 89 = .ok (.istore 10, 2) := by decide +kernel
theorem dX12_gainOf_91 : decode cX12_gainOf 91 = .ok (.iload 10, 2) := by decide +kernel
theorem dX12_gainOf_93 : decode cX12_gainOf 93 = .ok (.ifCond .eq 8, 3) := by decide +kernel
theorem dX12_gainOf_96 : decode cX12_gainOf 96 = .ok (.lload 8, 2) := by decide +kernel
theorem dX12_gainOf_98 : decode cX12_gainOf 98 = .ok (.goto 5, 3) := by decide +kernel
theorem dX12_gainOf_101 : decode cX12_gainOf 101 = .ok (.lload 6, 2) := by decide +kernel
theorem dX12_gainOf_103 : decode cX12_gainOf 103 = .ok (.lreturn, 1) := by decide +kernel
set_option maxRecDepth 20000 in
theorem ggX12_layGains_X12_gainOf : GoodIn wsX12_layGains wsX12_gainOf := goodIn_r _ [7, 8, 9, 10, 11, 12, 6, 13, 1, 14, 15, 16, 17, 2, 18, 19, 20, 21, 22, 23, 24, 25, 26, 27, 28, 29, 30, 31, 32, 33, 34, 35, 36, 37, 38, 39, 40, 41, 42, 43, 44, 45, 46, 47, 48, 49, 50, 51, 52, 53, 54, 55, 56, 57, 58, 59, 60, 61, 62, 63, 64, 65, 66, 67, 68, 69, 70, 71, 72, 73, 74, 75, 76, 77, 78, 79, 80, 81, 82, 83, 84, 85, 86, 87, 88, 89, 90, 91, 92, 93, 94, 95, 96, 97, 98, 99, 100, 101, 102, 103, 104, 105, 106, 107, 108, 109, 110, 111, 112, 113, 114, 115, 116, 117, 118, 119, 120, 121, 122, 123, 124, 125, 126, 127] (by decide +kernel) (by decide +kernel)
set_option maxRecDepth 20000 in
theorem gX12_layGains_X12_gainOf : GoodIn wsX12_layGains (wsV RX12 307 RX12 yX12_gainOf wsX12_gainOf) := goodIn_app (goodIn_of _ (by decide +kernel)) ggX12_layGains_X12_gainOf
theorem dX12_layGains_0 : decode cX12_layGains 0 = .ok (.iconst 0, 1) := by decide +kernel
theorem dX12_layGains_1 : decode cX12_layGains 1 = .ok (.istore_n 3, 1) := by decide +kernel
theorem dX12_layGains_2 : decode cX12_layGains 2 = .ok (.iload_n 3, 1) := by decide +kernel
theorem dX12_layGains_3 : decode cX12_layGains 3 = .ok (.bipush 9, 2) := by decide +kernel
theorem dX12_layGains_5 : decode cX12_layGains 5 = .ok (.if_icmp .ge 21, 3) := by decide +kernel
theorem dX12_layGains_8 : decode cX12_layGains 8 = .ok (.aload_n 0, 1) := by decide +kernel
theorem dX12_layGains_9 : decode cX12_layGains 9 = .ok (.getfield 90, 3) := by decide +kernel
theorem dX12_layGains_12 : decode cX12_layGains 12 = .ok (.bipush 10, 2) := by decide +kernel
theorem dX12_layGains_14 : decode cX12_layGains 14 = .ok (.iload_n 2, 1) := by decide +kernel
theorem dX12_layGains_15 : decode cX12_layGains 15 = .ok (.imul, 1) := by decide +kernel
theorem dX12_layGains_16 : decode cX12_layGains 16 = .ok (.iload_n 3, 1) := by decide +kernel
theorem dX12_layGains_17 : decode cX12_layGains 17 = .ok (.iadd, 1) := by decide +kernel
theorem dX12_layGains_18 : decode cX12_layGains 18 = .ok (.lconst 0, 1) := by decide +kernel
theorem dX12_layGains_19 : decode cX12_layGains 19 = .ok (.lastore, 1) := by decide +kernel
theorem dX12_layGains_20 : decode cX12_layGains 20 = .ok (.iinc 3 1, 3) := by decide +kernel
theorem dX12_layGains_23 : decode cX12_layGains 23 = .ok (.goto (-21), 3) := by decide +kernel
theorem dX12_layGains_26 : decode cX12_layGains 26 = .ok (.iload_n 2, 1) := by decide +kernel
theorem dX12_layGains_27 : decode cX12_layGains 27 = .ok (.iconst 1, 1) := by decide +kernel
theorem dX12_layGains_28 : decode cX12_layGains 28 = .ok (.isub, 1) := by decide +kernel
theorem dX12_layGains_29 : decode cX12_layGains 29 = .ok (.istore_n 3, 1) := by decide +kernel
theorem dX12_layGains_30 : decode cX12_layGains 30 = .ok (.iload_n 3, 1) := by decide +kernel
theorem dX12_layGains_31 : decode cX12_layGains 31 = .ok (.ifCond .lt 76, 3) := by decide +kernel
theorem dX12_layGains_34 : decode cX12_layGains 34 = .ok (.iconst 0, 1) := by decide +kernel
theorem dX12_layGains_35 : decode cX12_layGains 35 = .ok (.istore 4, 2) := by decide +kernel
theorem dX12_layGains_37 : decode cX12_layGains 37 = .ok (.iload 4, 2) := by decide +kernel
theorem dX12_layGains_39 : decode cX12_layGains 39 = .ok (.bipush 9, 2) := by decide +kernel
theorem dX12_layGains_41 : decode cX12_layGains 41 = .ok (.if_icmp .ge 60, 3) := by decide +kernel
theorem dX12_layGains_44 : decode cX12_layGains 44 = .ok (.lconst 0, 1) := by decide +kernel
theorem dX12_layGains_45 : decode cX12_layGains 45 = .ok (.lstore 5, 2) := by decide +kernel
theorem dX12_layGains_47 : decode cX12_layGains 47 = .ok (.iconst 0, 1) := by decide +kernel
theorem dX12_layGains_48 : decode cX12_layGains 48 = .ok (.istore 7, 2) := by decide +kernel
theorem dX12_layGains_50 : decode cX12_layGains 50 = .ok (.iload 7, 2) := by decide +kernel
theorem dX12_layGains_52 : decode cX12_layGains 52 = .ok (.aload_n 0, 1) := by decide +kernel
theorem dX12_layGains_53 : decode cX12_layGains 53 = .ok (.getfield 7, 3) := by decide +kernel
theorem dX12_layGains_56 : decode cX12_layGains 56 = .ok (.if_icmp .ge 25, 3) := by decide +kernel
theorem dX12_layGains_59 : decode cX12_layGains 59 = .ok (.lload 5, 2) := by decide +kernel
theorem dX12_layGains_61 : decode cX12_layGains 61 = .ok (.aload_n 0, 1) := by decide +kernel
theorem dX12_layGains_62 : decode cX12_layGains 62 = .ok (.iload_n 1, 1) := by decide +kernel
theorem dX12_layGains_63 : decode cX12_layGains 63 = .ok (.iload 7, 2) := by decide +kernel
theorem dX12_layGains_65 : decode cX12_layGains 65 = .ok (.iload_n 3, 1) := by decide +kernel
theorem dX12_layGains_66 : decode cX12_layGains 66 = .ok (.iload_n 2, 1) := by decide +kernel
theorem dX12_layGains_67 : decode cX12_layGains 67 = .ok (.iload 4, 2) := by decide +kernel
theorem dX12_layGains_69 : decode cX12_layGains 69 = .ok (.invokevirtual 307, 3) := by decide +kernel
theorem dX12_layGains_72 : decode cX12_layGains 72 = .ok (.ladd, 1) := by decide +kernel
theorem dX12_layGains_73 : decode cX12_layGains 73 = .ok (.lstore 5, 2) := by decide +kernel
theorem dX12_layGains_75 : decode cX12_layGains 75 = .ok (.iinc 7 1, 3) := by decide +kernel
theorem dX12_layGains_78 : decode cX12_layGains 78 = .ok (.goto (-28), 3) := by decide +kernel
theorem dX12_layGains_81 : decode cX12_layGains 81 = .ok (.aload_n 0, 1) := by decide +kernel
theorem dX12_layGains_82 : decode cX12_layGains 82 = .ok (.getfield 90, 3) := by decide +kernel
theorem dX12_layGains_85 : decode cX12_layGains 85 = .ok (.bipush 10, 2) := by decide +kernel
theorem dX12_layGains_87 : decode cX12_layGains 87 = .ok (.iload_n 3, 1) := by decide +kernel
theorem dX12_layGains_88 : decode cX12_layGains 88 = .ok (.imul, 1) := by decide +kernel
theorem dX12_layGains_89 : decode cX12_layGains 89 = .ok (.iload 4, 2) := by decide +kernel
theorem dX12_layGains_91 : decode cX12_layGains 91 = .ok (.iadd, 1) := by decide +kernel
theorem dX12_layGains_92 : decode cX12_layGains 92 = .ok (.lload 5, 2) := by decide +kernel
theorem dX12_layGains_94 : decode cX12_layGains 94 = .ok (.lastore, 1) := by decide +kernel
theorem dX12_layGains_95 : decode cX12_layGains 95 = .ok (.iinc 4 1, 3) := by decide +kernel
theorem dX12_layGains_98 : decode cX12_layGains 98 = .ok (.goto (-61), 3) := by decide +kernel
theorem dX12_layGains_101 : decode cX12_layGains 101 = .ok (.iinc 3 (-1), 3) := by decide +kernel
theorem dX12_layGains_104 : decode cX12_layGains 104 = .ok (.goto (-74), 3) := by decide +kernel
theorem dX12_layGains_107 : decode cX12_layGains 107 = .ok (.return_, 1) := by decide +kernel
theorem dX12_divisor_0 : decode cX12_divisor 0 = .ok (.lload_n 1, 1) := by decide +kernel
theorem dX12_divisor_1 : decode cX12_divisor 1 = .ok (.lconst 0, 1) := by decide +kernel
theorem dX12_divisor_2 : decode cX12_divisor 2 = .ok (.lcmp, 1) := by decide +kernel
theorem dX12_divisor_3 : decode cX12_divisor 3 = .ok (.ifCond .ge 8, 3) := by decide +kernel
theorem dX12_divisor_6 : decode cX12_divisor 6 = .ok (.lload_n 1, 1) := by decide +kernel
theorem dX12_divisor_7 : decode cX12_divisor 7 = .ok (.lneg, 1) := by decide +kernel
theorem dX12_divisor_8 : decode cX12_divisor 8 = .ok (.goto 4, 3) := by decide +kernel
theorem dX12_divisor_11 : decode cX12_divisor 11 = .ok (.lload_n 1, 1) := by decide +kernel
theorem dX12_divisor_12 : decode cX12_divisor 12 = .ok (.lstore 5, 2) := by decide +kernel
theorem dX12_divisor_14 : decode cX12_divisor 14 = .ok (.lload_n 3, 1) := by decide +kernel
theorem dX12_divisor_15 : decode cX12_divisor 15 = .ok (.lstore 7, 2) := by decide +kernel
theorem dX12_divisor_17 : decode cX12_divisor 17 = .ok (.lload 7, 2) := by decide +kernel
theorem dX12_divisor_19 : decode cX12_divisor 19 = .ok (.lconst 0, 1) := by decide +kernel
theorem dX12_divisor_20 : decode cX12_divisor 20 = .ok (.lcmp, 1) := by decide +kernel
theorem dX12_divisor_21 : decode cX12_divisor 21 = .ok (.ifCond .eq 21, 3) := by decide +kernel
theorem dX12_divisor_24 : decode cX12_divisor 24 = .ok (.lload 5, 2) := by decide +kernel
theorem dX12_divisor_26 : decode cX12_divisor 26 = .ok (.lload 7, 2) := by decide +kernel
theorem dX12_divisor_28 : decode cX12_divisor 28 = .ok (.lrem, 1) := by decide +kernel
theorem dX12_divisor_29 : decode cX12_divisor 29 = .ok (.lstore 9, 2) := by decide +kernel
theorem dX12_divisor_31 : decode cX12_divisor 31 = .ok (.lload 7, 2) := by decide +kernel
theorem dX12_divisor_33 : decode cX12_divisor 33 = .ok (.lstore 5, 2) := by decide +kernel
theorem dX12_divisor_35 : decode cX12_divisor 35 = .ok (.lload 9, 2) := by decide +kernel
theorem dX12_divisor_37 : decode cX12_divisor 37 = .ok (.lstore 7, 2) := by decide +kernel
theorem dX12_divisor_39 : decode cX12_divisor 39 = .ok (.goto (-22), 3) := by decide +kernel
theorem dX12_divisor_42 : decode cX12_divisor 42 = .ok (.lload 5, 2) := by decide +kernel
theorem dX12_divisor_44 : decode cX12_divisor 44 = .ok (.lreturn, 1) := by decide +kernel
set_option maxRecDepth 20000 in
theorem ggX12_lowest_X12_divisor : GoodIn wsX12_lowest wsX12_divisor := goodIn_r _ [5] (by decide +kernel) (by decide +kernel)
set_option maxRecDepth 20000 in
theorem gX12_lowest_X12_divisor : GoodIn wsX12_lowest (wsV RX12 311 RX12 yX12_divisor wsX12_divisor) := goodIn_app (goodIn_of _ (by decide +kernel)) ggX12_lowest_X12_divisor
theorem dX12_lowest_0 : decode cX12_lowest 0 = .ok (.aload_n 0, 1) := by decide +kernel
theorem dX12_lowest_1 : decode cX12_lowest 1 = .ok (.lload_n 1, 1) := by decide +kernel
theorem dX12_lowest_2 : decode cX12_lowest 2 = .ok (.lload_n 3, 1) := by decide +kernel
theorem dX12_lowest_3 : decode cX12_lowest 3 = .ok (.invokevirtual 311, 3) := by decide +kernel
theorem dX12_lowest_6 : decode cX12_lowest 6 = .ok (.lstore 6, 2) := by decide +kernel
theorem dX12_lowest_8 : decode cX12_lowest 8 = .ok (.iload 5, 2) := by decide +kernel
theorem dX12_lowest_10 : decode cX12_lowest 10 = .ok (.ifCond .ne 10, 3) := by decide +kernel
theorem dX12_lowest_13 : decode cX12_lowest 13 = .ok (.lload_n 1, 1) := by decide +kernel
theorem dX12_lowest_14 : decode cX12_lowest 14 = .ok (.lload 6, 2) := by decide +kernel
theorem dX12_lowest_16 : decode cX12_lowest 16 = .ok (.ldiv, 1) := by decide +kernel
theorem dX12_lowest_17 : decode cX12_lowest 17 = .ok (.goto 7, 3) := by decide +kernel
theorem dX12_lowest_20 : decode cX12_lowest 20 = .ok (.lload_n 3, 1) := by decide +kernel
theorem dX12_lowest_21 : decode cX12_lowest 21 = .ok (.lload 6, 2) := by decide +kernel
theorem dX12_lowest_23 : decode cX12_lowest 23 = .ok (.ldiv, 1) := by decide +kernel
theorem dX12_lowest_24 : decode cX12_lowest 24 = .ok (.lreturn, 1) := by decide +kernel
set_option maxRecDepth 20000 in
theorem ggX12_isYears_X12_in : GoodIn wsX12_isYears wsX12_in := goodIn_r _ [5] (by decide +kernel) (by decide +kernel)
set_option maxRecDepth 20000 in
theorem gX12_isYears_X12_in : GoodIn wsX12_isYears (wsV RX12 207 RX12 yX12_in wsX12_in) := goodIn_app (goodIn_of _ (by decide +kernel)) ggX12_isYears_X12_in
theorem dX12_isYears_0 : decode cX12_isYears 0 = .ok (.aload_n 0, 1) := by decide +kernel
theorem dX12_isYears_1 : decode cX12_isYears 1 = .ok (.iload_n 1, 1) := by decide +kernel
theorem dX12_isYears_2 : decode cX12_isYears 2 = .ok (.iconst 0, 1) := by decide +kernel
theorem dX12_isYears_3 : decode cX12_isYears 3 = .ok (.bipush 8, 2) := by decide +kernel
theorem dX12_isYears_5 : decode cX12_isYears 5 = .ok (.invokevirtual 207, 3) := by decide +kernel
theorem dX12_isYears_8 : decode cX12_isYears 8 = .ok (.ireturn, 1) := by decide +kernel
set_option maxRecDepth 20000 in
theorem ggX12_isAsked_X12_isYears : GoodIn wsX12_isAsked wsX12_isYears := goodIn_r _ [6, 7, 8, 9, 5, 10] (by decide +kernel) (by decide +kernel)
set_option maxRecDepth 20000 in
theorem gX12_isAsked_X12_isYears : GoodIn wsX12_isAsked (wsV RX12 315 RX12 yX12_isYears wsX12_isYears) := goodIn_app (goodIn_of _ (by decide +kernel)) ggX12_isAsked_X12_isYears
set_option maxRecDepth 20000 in
theorem ggX12_isAsked_X12_in : GoodIn wsX12_isAsked wsX12_in := goodIn_r _ [10] (by decide +kernel) (by decide +kernel)
set_option maxRecDepth 20000 in
theorem gX12_isAsked_X12_in : GoodIn wsX12_isAsked (wsV RX12 207 RX12 yX12_in wsX12_in) := goodIn_app (goodIn_of _ (by decide +kernel)) ggX12_isAsked_X12_in
theorem dX12_isAsked_0 : decode cX12_isAsked 0 = .ok (.aload_n 0, 1) := by decide +kernel
theorem dX12_isAsked_1 : decode cX12_isAsked 1 = .ok (.iload_n 1, 1) := by decide +kernel
theorem dX12_isAsked_2 : decode cX12_isAsked 2 = .ok (.invokevirtual 315, 3) := by decide +kernel
theorem dX12_isAsked_5 : decode cX12_isAsked 5 = .ok (.ifCond .eq 24, 3) := by decide +kernel
theorem dX12_isAsked_8 : decode cX12_isAsked 8 = .ok (.aload_n 0, 1) := by decide +kernel
theorem dX12_isAsked_9 : decode cX12_isAsked 9 = .ok (.iload_n 2, 1) := by decide +kernel
theorem dX12_isAsked_10 : decode cX12_isAsked 10 = .ok (.iconst 0, 1) := by decide +kernel
theorem dX12_isAsked_11 : decode cX12_isAsked 11 = .ok (.iconst 1, 1) := by decide +kernel
theorem dX12_isAsked_12 : decode cX12_isAsked 12 = .ok (.invokevirtual 207, 3) := by decide +kernel
theorem dX12_isAsked_15 : decode cX12_isAsked 15 = .ok (.ifCond .eq 14, 3) := by decide +kernel
theorem dX12_isAsked_18 : decode cX12_isAsked 18 = .ok (.aload_n 0, 1) := by decide +kernel
theorem dX12_isAsked_19 : decode cX12_isAsked 19 = .ok (.getfield 7, 3) := by decide +kernel
theorem dX12_isAsked_22 : decode cX12_isAsked 22 = .ok (.ifCond .le 7, 3) := by decide +kernel
theorem dX12_isAsked_25 : decode cX12_isAsked 25 = .ok (.iconst 1, 1) := by decide +kernel
theorem dX12_isAsked_26 : decode cX12_isAsked 26 = .ok (.goto 4, 3) := by decide +kernel
theorem dX12_isAsked_29 : decode cX12_isAsked 29 = .ok (.iconst 0, 1) := by decide +kernel
theorem dX12_isAsked_30 : decode cX12_isAsked 30 = .ok (.ireturn, 1) := by decide +kernel
set_option maxRecDepth 20000 in
theorem ggX12_mean_X12_isAsked : GoodIn wsX12_mean wsX12_isAsked := goodIn_r _ [8, 9, 10, 11, 12, 7, 13, 14, 15, 16, 17, 91, 92, 93, 94, 95, 96, 97, 98, 99, 100, 101, 102, 103, 104, 105, 106, 107, 108, 109, 110, 111, 112, 113, 114, 115, 116, 117, 118, 119, 120, 121, 122, 123, 124, 125, 126, 127, 128, 129, 130, 131, 132, 133, 134, 135, 136, 137, 138, 139, 140, 141, 142, 143, 144, 145, 146, 147, 148, 149, 150, 151, 152, 153] (by decide +kernel) (by decide +kernel)
set_option maxRecDepth 20000 in
theorem gX12_mean_X12_isAsked : GoodIn wsX12_mean (wsV RX12 318 RX12 yX12_isAsked wsX12_isAsked) := goodIn_app (goodIn_of _ (by decide +kernel)) ggX12_mean_X12_isAsked
set_option maxRecDepth 20000 in
theorem ggX12_mean_X12_layGains : GoodIn wsX12_mean wsX12_layGains := goodIn_r _ [21, 2, 9, 22, 23, 24, 7, 25, 26, 27, 28, 29, 30, 31, 32, 33, 34, 35, 36, 37, 38, 39, 40, 41, 42, 43, 44, 45, 46, 47, 48, 49, 50, 51, 52, 53, 54, 55, 56, 57, 58, 59, 60, 61, 62, 63, 64, 65, 66, 67, 68, 69, 70, 71, 72, 73, 74, 75, 76, 77, 78, 79, 80, 81, 82, 91, 92, 93, 94, 95, 96, 97, 98, 99, 100, 101, 102, 103, 104, 105, 106, 107, 108, 109, 110, 111, 112, 113, 114, 115, 116, 117, 118, 119, 120, 121, 122, 123, 124, 125, 126, 127, 128, 129, 130, 131, 132, 133, 134, 135, 136, 137, 138, 139, 140, 141, 142, 143, 144, 145, 146, 147, 148, 149, 150, 151, 152, 153] (by decide +kernel) (by decide +kernel)
set_option maxRecDepth 20000 in
theorem gX12_mean_X12_layGains : GoodIn wsX12_mean (wsV RX12 323 RX12 yX12_layGains wsX12_layGains) := goodIn_app (goodIn_of _ (by decide +kernel)) ggX12_mean_X12_layGains
set_option maxRecDepth 20000 in
theorem ggX12_mean_X12_ways : GoodIn wsX12_mean wsX12_ways := goodIn_r _ [35, 9, 91, 92, 93, 94, 95, 96, 97, 98, 99, 100, 101, 102, 103, 104, 105, 106, 107, 108, 109, 110, 111, 112, 113, 114, 115, 116, 117, 118, 119, 120, 121, 122, 123, 124, 125, 126, 127, 128, 129, 130, 131, 132, 133, 134, 135, 136, 137, 138, 139, 140, 141, 142, 143, 144, 145, 146, 147, 148, 149, 150, 151, 152, 153] (by decide +kernel) (by decide +kernel)
set_option maxRecDepth 20000 in
theorem gX12_mean_X12_ways : GoodIn wsX12_mean (wsV RX12 295 RX12 yX12_ways wsX12_ways) := goodIn_app (goodIn_of _ (by decide +kernel)) ggX12_mean_X12_ways
set_option maxRecDepth 20000 in
theorem ggX12_mean_X12_lowest : GoodIn wsX12_mean wsX12_lowest := goodIn_r _ [86, 87, 88, 89, 7, 90] (by decide +kernel) (by decide +kernel)
set_option maxRecDepth 20000 in
theorem gX12_mean_X12_lowest : GoodIn wsX12_mean (wsV RX12 327 RX12 yX12_lowest wsX12_lowest) := goodIn_app (goodIn_of _ (by decide +kernel)) ggX12_mean_X12_lowest
theorem dX12_mean_0 : decode cX12_mean 0 = .ok (.aload_n 0, 1) := by decide +kernel
theorem dX12_mean_1 : decode cX12_mean 1 = .ok (.iload_n 1, 1) := by decide +kernel
theorem dX12_mean_2 : decode cX12_mean 2 = .ok (.iload_n 2, 1) := by decide +kernel
theorem dX12_mean_3 : decode cX12_mean 3 = .ok (.invokevirtual 318, 3) := by decide +kernel
theorem dX12_mean_6 : decode cX12_mean 6 = .ok (.ifCond .ne 7, 3) := by decide +kernel
theorem dX12_mean_9 : decode cX12_mean 9 = .ok (.ldc2_w 321, 3) := by decide +kernel
theorem dX12_mean_12 : decode cX12_mean 12 = .ok (.lreturn, 1) := by decide +kernel
theorem dX12_mean_13 : decode cX12_mean 13 = .ok (.aload_n 0, 1) := by decide +kernel
theorem dX12_mean_14 : decode cX12_mean 14 = .ok (.iconst 0, 1) := by decide +kernel
theorem dX12_mean_15 : decode cX12_mean 15 = .ok (.iload_n 1, 1) := by decide +kernel
theorem dX12_mean_16 : decode cX12_mean 16 = .ok (.invokevirtual 323, 3) := by decide +kernel
theorem dX12_mean_19 : decode cX12_mean 19 = .ok (.aload_n 0, 1) := by decide +kernel
theorem dX12_mean_20 : decode cX12_mean 20 = .ok (.aload_n 0, 1) := by decide +kernel
theorem dX12_mean_21 : decode cX12_mean 21 = .ok (.getfield 90, 3) := by decide +kernel
theorem dX12_mean_24 : decode cX12_mean 24 = .ok (.aload_n 0, 1) := by decide +kernel
theorem dX12_mean_25 : decode cX12_mean 25 = .ok (.getfield 13, 3) := by decide +kernel
theorem dX12_mean_28 : decode cX12_mean 28 = .ok (.laload, 1) := by decide +kernel
theorem dX12_mean_29 : decode cX12_mean 29 = .ok (.aload_n 0, 1) := by decide +kernel
theorem dX12_mean_30 : decode cX12_mean 30 = .ok (.iload_n 1, 1) := by decide +kernel
theorem dX12_mean_31 : decode cX12_mean 31 = .ok (.invokevirtual 295, 3) := by decide +kernel
theorem dX12_mean_34 : decode cX12_mean 34 = .ok (.iload_n 2, 1) := by decide +kernel
theorem dX12_mean_35 : decode cX12_mean 35 = .ok (.invokevirtual 327, 3) := by decide +kernel
theorem dX12_mean_38 : decode cX12_mean 38 = .ok (.lreturn, 1) := by decide +kernel
set_option maxRecDepth 20000 in
theorem ggX12_price_X12_isAsked : GoodIn wsX12_price wsX12_isAsked := goodIn_r _ [8, 9, 10, 11, 12, 7, 13, 14, 15, 16, 17, 91, 92, 93, 94, 95, 96, 97, 98, 99, 100, 101, 102, 103, 104, 105, 106, 107, 108, 109, 110, 111, 112, 113, 114, 115, 116, 117, 118, 119, 120, 121, 122, 123, 124, 125, 126, 127, 128, 129, 130, 131, 132, 133, 134, 135, 136, 137, 138, 139, 140, 141, 142, 143, 144, 145, 146, 147, 148, 149, 150, 151, 152, 153] (by decide +kernel) (by decide +kernel)
set_option maxRecDepth 20000 in
theorem gX12_price_X12_isAsked : GoodIn wsX12_price (wsV RX12 318 RX12 yX12_isAsked wsX12_isAsked) := goodIn_app (goodIn_of _ (by decide +kernel)) ggX12_price_X12_isAsked
set_option maxRecDepth 20000 in
theorem ggX12_price_X12_layGains : GoodIn wsX12_price wsX12_layGains := goodIn_r _ [21, 3, 9, 22, 23, 24, 7, 25, 26, 27, 28, 29, 30, 31, 32, 33, 34, 35, 36, 37, 38, 39, 40, 41, 42, 43, 44, 45, 46, 47, 48, 49, 50, 51, 52, 53, 54, 55, 56, 57, 58, 59, 60, 61, 62, 63, 64, 65, 66, 67, 68, 69, 70, 71, 72, 73, 74, 75, 76, 77, 78, 79, 80, 81, 82, 91, 92, 93, 94, 95, 96, 97, 98, 99, 100, 101, 102, 103, 104, 105, 106, 107, 108, 109, 110, 111, 112, 113, 114, 115, 116, 117, 118, 119, 120, 121, 122, 123, 124, 125, 126, 127, 128, 129, 130, 131, 132, 133, 134, 135, 136, 137, 138, 139, 140, 141, 142, 143, 144, 145, 146, 147, 148, 149, 150, 151, 152, 153] (by decide +kernel) (by decide +kernel)
set_option maxRecDepth 20000 in
theorem gX12_price_X12_layGains : GoodIn wsX12_price (wsV RX12 323 RX12 yX12_layGains wsX12_layGains) := goodIn_app (goodIn_of _ (by decide +kernel)) ggX12_price_X12_layGains
set_option maxRecDepth 20000 in
theorem ggX12_price_X12_ways : GoodIn wsX12_price wsX12_ways := goodIn_r _ [35, 9, 91, 92, 93, 94, 95, 96, 97, 98, 99, 100, 101, 102, 103, 104, 105, 106, 107, 108, 109, 110, 111, 112, 113, 114, 115, 116, 117, 118, 119, 120, 121, 122, 123, 124, 125, 126, 127, 128, 129, 130, 131, 132, 133, 134, 135, 136, 137, 138, 139, 140, 141, 142, 143, 144, 145, 146, 147, 148, 149, 150, 151, 152, 153] (by decide +kernel) (by decide +kernel)
set_option maxRecDepth 20000 in
theorem gX12_price_X12_ways : GoodIn wsX12_price (wsV RX12 295 RX12 yX12_ways wsX12_ways) := goodIn_app (goodIn_of _ (by decide +kernel)) ggX12_price_X12_ways
set_option maxRecDepth 20000 in
theorem ggX12_price_X12_lowest : GoodIn wsX12_price wsX12_lowest := goodIn_r _ [86, 87, 88, 89, 7, 90] (by decide +kernel) (by decide +kernel)
set_option maxRecDepth 20000 in
theorem gX12_price_X12_lowest : GoodIn wsX12_price (wsV RX12 327 RX12 yX12_lowest wsX12_lowest) := goodIn_app (goodIn_of _ (by decide +kernel)) ggX12_price_X12_lowest
theorem dX12_price_0 : decode cX12_price 0 = .ok (.aload_n 0, 1) := by decide +kernel
theorem dX12_price_1 : decode cX12_price 1 = .ok (.iload_n 1, 1) := by decide +kernel
theorem dX12_price_2 : decode cX12_price 2 = .ok (.iload_n 2, 1) := by decide +kernel
theorem dX12_price_3 : decode cX12_price 3 = .ok (.invokevirtual 318, 3) := by decide +kernel
theorem dX12_price_6 : decode cX12_price 6 = .ok (.ifCond .eq 12, 3) := by decide +kernel
theorem dX12_price_9 : decode cX12_price 9 = .ok (.aload_n 0, 1) := by decide +kernel
theorem dX12_price_10 : decode cX12_price 10 = .ok (.getfield 13, 3) := by decide +kernel
theorem dX12_price_13 : decode cX12_price 13 = .ok (.bipush 8, 2) := by decide +kernel
theorem dX12_price_15 : decode cX12_price 15 = .ok (.if_icmp .ne 7, 3) := by decide +kernel
theorem dX12_price_18 : decode cX12_price 18 = .ok (.ldc2_w 321, 3) := by decide +kernel
theorem dX12_price_21 : decode cX12_price 21 = .ok (.lreturn, 1) := by decide +kernel
theorem dX12_price_22 : decode cX12_price 22 = .ok (.aload_n 0, 1) := by decide +kernel
theorem dX12_price_23 : decode cX12_price 23 = .ok (.iconst 0, 1) := by decide +kernel
theorem dX12_price_24 : decode cX12_price 24 = .ok (.iload_n 1, 1) := by decide +kernel
theorem dX12_price_25 : decode cX12_price 25 = .ok (.invokevirtual 323, 3) := by decide +kernel
theorem dX12_price_28 : decode cX12_price 28 = .ok (.aload_n 0, 1) := by decide +kernel
theorem dX12_price_29 : decode cX12_price 29 = .ok (.aload_n 0, 1) := by decide +kernel
theorem dX12_price_30 : decode cX12_price 30 = .ok (.getfield 90, 3) := by decide +kernel
theorem dX12_price_33 : decode cX12_price 33 = .ok (.aload_n 0, 1) := by decide +kernel
theorem dX12_price_34 : decode cX12_price 34 = .ok (.getfield 13, 3) := by decide +kernel
theorem dX12_price_37 : decode cX12_price 37 = .ok (.iconst 1, 1) := by decide +kernel
theorem dX12_price_38 : decode cX12_price 38 = .ok (.iadd, 1) := by decide +kernel
theorem dX12_price_39 : decode cX12_price 39 = .ok (.laload, 1) := by decide +kernel
theorem dX12_price_40 : decode cX12_price 40 = .ok (.aload_n 0, 1) := by decide +kernel
theorem dX12_price_41 : decode cX12_price 41 = .ok (.getfield 90, 3) := by decide +kernel
theorem dX12_price_44 : decode cX12_price 44 = .ok (.aload_n 0, 1) := by decide +kernel
theorem dX12_price_45 : decode cX12_price 45 = .ok (.getfield 13, 3) := by decide +kernel
theorem dX12_price_48 : decode cX12_price 48 = .ok (.laload, 1) := by decide +kernel
theorem dX12_price_49 : decode cX12_price 49 = .ok (.lsub, 1) := by decide +kernel
theorem dX12_price_50 : decode cX12_price 50 = .ok (.aload_n 0, 1) := by decide +kernel
theorem dX12_price_51 : decode cX12_price 51 = .ok (.iload_n 1, 1) := by decide +kernel
theorem dX12_price_52 : decode cX12_price 52 = .ok (.invokevirtual 295, 3) := by decide +kernel
theorem dX12_price_55 : decode cX12_price 55 = .ok (.iload_n 2, 1) := by decide +kernel
theorem dX12_price_56 : decode cX12_price 56 = .ok (.invokevirtual 327, 3) := by decide +kernel
theorem dX12_price_59 : decode cX12_price 59 = .ok (.lreturn, 1) := by decide +kernel
set_option maxRecDepth 20000 in
theorem ggX12_greedy_X12_isAsked : GoodIn wsX12_greedy wsX12_isAsked := goodIn_r _ [8, 9, 10, 11, 12, 7, 13, 14, 15, 16, 17, 91, 92, 93, 94, 95, 96, 97, 98, 99, 100, 101, 102, 103, 104, 105, 106, 107, 108, 109, 110, 111, 112, 113, 114, 115, 116, 117, 118, 119, 120, 121, 122, 123, 124, 125, 126, 127, 128, 129, 130, 131, 132, 133, 134, 135, 136, 137, 138, 139, 140, 141, 142, 143, 144, 145, 146, 147, 148, 149, 150, 151, 152, 153] (by decide +kernel) (by decide +kernel)
set_option maxRecDepth 20000 in
theorem gX12_greedy_X12_isAsked : GoodIn wsX12_greedy (wsV RX12 318 RX12 yX12_isAsked wsX12_isAsked) := goodIn_app (goodIn_of _ (by decide +kernel)) ggX12_greedy_X12_isAsked
set_option maxRecDepth 20000 in
theorem ggX12_greedy_X12_layGains : GoodIn wsX12_greedy wsX12_layGains := goodIn_r _ [21, 2, 9, 22, 23, 24, 7, 25, 26, 27, 28, 29, 30, 31, 32, 33, 34, 35, 36, 37, 38, 39, 40, 41, 42, 43, 44, 45, 46, 47, 48, 49, 50, 51, 52, 53, 54, 55, 56, 57, 58, 59, 60, 61, 62, 63, 64, 65, 66, 67, 68, 69, 70, 71, 72, 73, 74, 75, 76, 77, 78, 79, 80, 81, 82, 91, 92, 93, 94, 95, 96, 97, 98, 99, 100, 101, 102, 103, 104, 105, 106, 107, 108, 109, 110, 111, 112, 113, 114, 115, 116, 117, 118, 119, 120, 121, 122, 123, 124, 125, 126, 127, 128, 129, 130, 131, 132, 133, 134, 135, 136, 137, 138, 139, 140, 141, 142, 143, 144, 145, 146, 147, 148, 149, 150, 151, 152, 153] (by decide +kernel) (by decide +kernel)
set_option maxRecDepth 20000 in
theorem gX12_greedy_X12_layGains : GoodIn wsX12_greedy (wsV RX12 323 RX12 yX12_layGains wsX12_layGains) := goodIn_app (goodIn_of _ (by decide +kernel)) ggX12_greedy_X12_layGains
set_option maxRecDepth 20000 in
theorem ggX12_greedy_X12_ways : GoodIn wsX12_greedy wsX12_ways := goodIn_r _ [35, 9, 91, 92, 93, 94, 95, 96, 97, 98, 99, 100, 101, 102, 103, 104, 105, 106, 107, 108, 109, 110, 111, 112, 113, 114, 115, 116, 117, 118, 119, 120, 121, 122, 123, 124, 125, 126, 127, 128, 129, 130, 131, 132, 133, 134, 135, 136, 137, 138, 139, 140, 141, 142, 143, 144, 145, 146, 147, 148, 149, 150, 151, 152, 153] (by decide +kernel) (by decide +kernel)
set_option maxRecDepth 20000 in
theorem gX12_greedy_X12_ways : GoodIn wsX12_greedy (wsV RX12 295 RX12 yX12_ways wsX12_ways) := goodIn_app (goodIn_of _ (by decide +kernel)) ggX12_greedy_X12_ways
set_option maxRecDepth 20000 in
theorem ggX12_greedy_X12_lowest : GoodIn wsX12_greedy wsX12_lowest := goodIn_r _ [86, 87, 88, 89, 7, 90] (by decide +kernel) (by decide +kernel)
set_option maxRecDepth 20000 in
theorem gX12_greedy_X12_lowest : GoodIn wsX12_greedy (wsV RX12 327 RX12 yX12_lowest wsX12_lowest) := goodIn_app (goodIn_of _ (by decide +kernel)) ggX12_greedy_X12_lowest
theorem dX12_greedy_0 : decode cX12_greedy 0 = .ok (.aload_n 0, 1) := by decide +kernel
theorem dX12_greedy_1 : decode cX12_greedy 1 = .ok (.iload_n 1, 1) := by decide +kernel
theorem dX12_greedy_2 : decode cX12_greedy 2 = .ok (.iload_n 2, 1) := by decide +kernel
theorem dX12_greedy_3 : decode cX12_greedy 3 = .ok (.invokevirtual 318, 3) := by decide +kernel
theorem dX12_greedy_6 : decode cX12_greedy 6 = .ok (.ifCond .ne 7, 3) := by decide +kernel
theorem dX12_greedy_9 : decode cX12_greedy 9 = .ok (.ldc2_w 321, 3) := by decide +kernel
theorem dX12_greedy_12 : decode cX12_greedy 12 = .ok (.lreturn, 1) := by decide +kernel
theorem dX12_greedy_13 : decode cX12_greedy 13 = .ok (.aload_n 0, 1) := by decide +kernel
theorem dX12_greedy_14 : decode cX12_greedy 14 = .ok (.iconst 1, 1) := by decide +kernel
theorem dX12_greedy_15 : decode cX12_greedy 15 = .ok (.iload_n 1, 1) := by decide +kernel
theorem dX12_greedy_16 : decode cX12_greedy 16 = .ok (.invokevirtual 323, 3) := by decide +kernel
theorem dX12_greedy_19 : decode cX12_greedy 19 = .ok (.aload_n 0, 1) := by decide +kernel
theorem dX12_greedy_20 : decode cX12_greedy 20 = .ok (.aload_n 0, 1) := by decide +kernel
theorem dX12_greedy_21 : decode cX12_greedy 21 = .ok (.getfield 90, 3) := by decide +kernel
theorem dX12_greedy_24 : decode cX12_greedy 24 = .ok (.aload_n 0, 1) := by decide +kernel
theorem dX12_greedy_25 : decode cX12_greedy 25 = .ok (.getfield 13, 3) := by decide +kernel
theorem dX12_greedy_28 : decode cX12_greedy 28 = .ok (.laload, 1) := by decide +kernel
theorem dX12_greedy_29 : decode cX12_greedy 29 = .ok (.aload_n 0, 1) := by decide +kernel
theorem dX12_greedy_30 : decode cX12_greedy 30 = .ok (.iload_n 1, 1) := by decide +kernel
theorem dX12_greedy_31 : decode cX12_greedy 31 = .ok (.invokevirtual 295, 3) := by decide +kernel
theorem dX12_greedy_34 : decode cX12_greedy 34 = .ok (.iload_n 2, 1) := by decide +kernel
theorem dX12_greedy_35 : decode cX12_greedy 35 = .ok (.invokevirtual 327, 3) := by decide +kernel
theorem dX12_greedy_38 : decode cX12_greedy 38 = .ok (.lreturn, 1) := by decide +kernel
set_option maxRecDepth 20000 in
theorem ggX12_only_X12_in : GoodIn wsX12_only wsX12_in := goodIn_r _ [9] (by decide +kernel) (by decide +kernel)
set_option maxRecDepth 20000 in
theorem gX12_only_X12_in : GoodIn wsX12_only (wsV RX12 207 RX12 yX12_in wsX12_in) := goodIn_app (goodIn_of _ (by decide +kernel)) ggX12_only_X12_in
set_option maxRecDepth 20000 in
theorem ggX12_only_X12_isAsked : GoodIn wsX12_only wsX12_isAsked := goodIn_r _ [13, 14, 15, 16, 17, 8, 18, 5, 6, 7, 9, 91, 92, 93, 94, 95, 96, 97, 98, 99, 100, 101, 102, 103, 104, 105, 106, 107, 108, 109, 110, 111, 112, 113, 114, 115, 116, 117, 118, 119, 120, 121, 122, 123, 124, 125, 126, 127, 128, 129, 130, 131, 132, 133, 134, 135, 136, 137, 138, 139, 140, 141, 142, 143, 144, 145, 146, 147, 148, 149, 150, 151, 152, 153] (by decide +kernel) (by decide +kernel)
set_option maxRecDepth 20000 in
theorem gX12_only_X12_isAsked : GoodIn wsX12_only (wsV RX12 318 RX12 yX12_isAsked wsX12_isAsked) := goodIn_app (goodIn_of _ (by decide +kernel)) ggX12_only_X12_isAsked
set_option maxRecDepth 20000 in
theorem ggX12_only_X12_layGains : GoodIn wsX12_only wsX12_layGains := goodIn_r _ [22, 3, 14, 23, 24, 25, 8, 26, 27, 2, 28, 29, 30, 31, 32, 33, 34, 35, 36, 37, 38, 39, 40, 41, 42, 43, 44, 45, 46, 47, 48, 49, 50, 51, 52, 53, 54, 55, 56, 57, 58, 59, 60, 61, 62, 63, 64, 65, 66, 67, 68, 69, 70, 71, 72, 73, 74, 75, 76, 77, 78, 79, 80, 81, 82, 91, 92, 93, 94, 95, 96, 97, 98, 99, 100, 101, 102, 103, 104, 105, 106, 107, 108, 109, 110, 111, 112, 113, 114, 115, 116, 117, 118, 119, 120, 121, 122, 123, 124, 125, 126, 127, 128, 129, 130, 131, 132, 133, 134, 135, 136, 137, 138, 139, 140, 141, 142, 143, 144, 145, 146, 147, 148, 149, 150, 151, 152, 153] (by decide +kernel) (by decide +kernel)
set_option maxRecDepth 20000 in
theorem gX12_only_X12_layGains : GoodIn wsX12_only (wsV RX12 323 RX12 yX12_layGains wsX12_layGains) := goodIn_app (goodIn_of _ (by decide +kernel)) ggX12_only_X12_layGains
set_option maxRecDepth 20000 in
theorem ggX12_only_X12_ways : GoodIn wsX12_only wsX12_ways := goodIn_r _ [35, 14, 91, 92, 93, 94, 95, 96, 97, 98, 99, 100, 101, 102, 103, 104, 105, 106, 107, 108, 109, 110, 111, 112, 113, 114, 115, 116, 117, 118, 119, 120, 121, 122, 123, 124, 125, 126, 127, 128, 129, 130, 131, 132, 133, 134, 135, 136, 137, 138, 139, 140, 141, 142, 143, 144, 145, 146, 147, 148, 149, 150, 151, 152, 153] (by decide +kernel) (by decide +kernel)
set_option maxRecDepth 20000 in
theorem gX12_only_X12_ways : GoodIn wsX12_only (wsV RX12 295 RX12 yX12_ways wsX12_ways) := goodIn_app (goodIn_of _ (by decide +kernel)) ggX12_only_X12_ways
set_option maxRecDepth 20000 in
theorem ggX12_only_X12_lowest : GoodIn wsX12_only wsX12_lowest := goodIn_r _ [86, 87, 88, 89, 8, 90] (by decide +kernel) (by decide +kernel)
set_option maxRecDepth 20000 in
theorem gX12_only_X12_lowest : GoodIn wsX12_only (wsV RX12 327 RX12 yX12_lowest wsX12_lowest) := goodIn_app (goodIn_of _ (by decide +kernel)) ggX12_only_X12_lowest
theorem dX12_only_0 : decode cX12_only 0 = .ok (.aload_n 0, 1) := by decide +kernel
theorem dX12_only_1 : decode cX12_only 1 = .ok (.iload_n 1, 1) := by decide +kernel
theorem dX12_only_2 : decode cX12_only 2 = .ok (.iconst 0, 1) := by decide +kernel
theorem dX12_only_3 : decode cX12_only 3 = .ok (.bipush 63, 2) := by decide +kernel
theorem dX12_only_5 : decode cX12_only 5 = .ok (.invokevirtual 207, 3) := by decide +kernel
theorem dX12_only_8 : decode cX12_only 8 = .ok (.ifCond .eq 12, 3) := by decide +kernel
theorem dX12_only_11 : decode cX12_only 11 = .ok (.aload_n 0, 1) := by decide +kernel
theorem dX12_only_12 : decode cX12_only 12 = .ok (.iload_n 2, 1) := by decide +kernel
theorem dX12_only_13 : decode cX12_only 13 = .ok (.iload_n 3, 1) := by decide +kernel
theorem dX12_only_14 : decode cX12_only 14 = .ok (.invokevirtual 318, 3) := by decide +kernel
theorem dX12_only_17 : decode cX12_only 17 = .ok (.ifCond .ne 7, 3) := by decide +kernel
theorem dX12_only_20 : decode cX12_only 20 = .ok (.ldc2_w 321, 3) := by decide +kernel
theorem dX12_only_23 : decode cX12_only 23 = .ok (.lreturn, 1) := by decide +kernel
theorem dX12_only_24 : decode cX12_only 24 = .ok (.aload_n 0, 1) := by decide +kernel
theorem dX12_only_25 : decode cX12_only 25 = .ok (.iload_n 1, 1) := by decide +kernel
theorem dX12_only_26 : decode cX12_only 26 = .ok (.putfield 94, 3) := by decide +kernel
theorem dX12_only_29 : decode cX12_only 29 = .ok (.aload_n 0, 1) := by decide +kernel
theorem dX12_only_30 : decode cX12_only 30 = .ok (.iconst 2, 1) := by decide +kernel
theorem dX12_only_31 : decode cX12_only 31 = .ok (.iload_n 2, 1) := by decide +kernel
theorem dX12_only_32 : decode cX12_only 32 = .ok (.invokevirtual 323, 3) := by decide +kernel
theorem dX12_only_35 : decode cX12_only 35 = .ok (.aload_n 0, 1) := by decide +kernel
theorem dX12_only_36 : decode cX12_only 36 = .ok (.aload_n 0, 1) := by decide +kernel
theorem dX12_only_37 : decode cX12_only 37 = .ok (.getfield 90, 3) := by decide +kernel
theorem dX12_only_40 : decode cX12_only 40 = .ok (.aload_n 0, 1) := by decide +kernel
theorem dX12_only_41 : decode cX12_only 41 = .ok (.getfield 13, 3) := by decide +kernel
theorem dX12_only_44 : decode cX12_only 44 = .ok (.laload, 1) := by decide +kernel
theorem dX12_only_45 : decode cX12_only 45 = .ok (.aload_n 0, 1) := by decide +kernel
theorem dX12_only_46 : decode cX12_only 46 = .ok (.iload_n 2, 1) := by decide +kernel
theorem dX12_only_47 : decode cX12_only 47 = .ok (.invokevirtual 295, 3) := by decide +kernel
theorem dX12_only_50 : decode cX12_only 50 = .ok (.iload_n 3, 1) := by decide +kernel
theorem dX12_only_51 : decode cX12_only 51 = .ok (.invokevirtual 327, 3) := by decide +kernel
theorem dX12_only_54 : decode cX12_only 54 = .ok (.lreturn, 1) := by decide +kernel
set_option maxRecDepth 20000 in
theorem ggX12_chosen_X12_isYears : GoodIn wsX12_chosen wsX12_isYears := goodIn_r _ [9, 10, 11, 12, 8, 13] (by decide +kernel) (by decide +kernel)
set_option maxRecDepth 20000 in
theorem gX12_chosen_X12_isYears : GoodIn wsX12_chosen (wsV RX12 315 RX12 yX12_isYears wsX12_isYears) := goodIn_app (goodIn_of _ (by decide +kernel)) ggX12_chosen_X12_isYears
set_option maxRecDepth 20000 in
theorem ggX12_chosen_X12_layGains : GoodIn wsX12_chosen wsX12_layGains := goodIn_r _ [17, 3, 1, 18, 19, 20, 8, 21, 22, 2, 23, 24, 25, 26, 27, 28, 29, 30, 31, 32, 33, 34, 35, 36, 37, 38, 39, 40, 41, 42, 43, 44, 45, 46, 47, 48, 49, 50, 51, 52, 53, 54, 55, 56, 57, 58, 59, 60, 61, 62, 63, 64, 65, 66, 67, 68, 69, 70, 71, 72, 73, 74, 75, 76, 77, 78, 79, 80, 81, 82, 83, 84, 85, 86, 87, 88, 89, 90, 91, 92, 93, 94, 95, 96, 97, 98, 99, 100, 101, 102, 103, 104, 105, 106, 107, 108, 109, 110, 111, 112, 113, 114, 115, 116, 117, 118, 119, 120, 121, 122, 123, 124, 125, 126, 127, 128, 129, 130, 131, 132, 133, 134, 135, 136, 137, 138, 139, 140] (by decide +kernel) (by decide +kernel)
set_option maxRecDepth 20000 in
theorem gX12_chosen_X12_layGains : GoodIn wsX12_chosen (wsV RX12 323 RX12 yX12_layGains wsX12_layGains) := goodIn_app (goodIn_of _ (by decide +kernel)) ggX12_chosen_X12_layGains
theorem dX12_chosen_0 : decode cX12_chosen 0 = .ok (.aload_n 0, 1) := by decide +kernel
theorem dX12_chosen_1 : decode cX12_chosen 1 = .ok (.iload_n 1, 1) := by decide +kernel
theorem dX12_chosen_2 : decode cX12_chosen 2 = .ok (.invokevirtual 315, 3) := by decide +kernel
theorem dX12_chosen_5 : decode cX12_chosen 5 = .ok (.ifCond .ne 6, 3) := by decide +kernel
theorem dX12_chosen_8 : decode cX12_chosen 8 = .ok (.bipush (-2), 2) := by decide +kernel
theorem dX12_chosen_10 : decode cX12_chosen 10 = .ok (.ireturn, 1) := by decide +kernel
theorem dX12_chosen_11 : decode cX12_chosen 11 = .ok (.aload_n 0, 1) := by decide +kernel
theorem dX12_chosen_12 : decode cX12_chosen 12 = .ok (.getfield 7, 3) := by decide +kernel
theorem dX12_chosen_15 : decode cX12_chosen 15 = .ok (.ifCond .ne 6, 3) := by decide +kernel
theorem dX12_chosen_18 : decode cX12_chosen 18 = .ok (.bipush (-5), 2) := by decide +kernel
theorem dX12_chosen_20 : decode cX12_chosen 20 = .ok (.ireturn, 1) := by decide +kernel
theorem dX12_chosen_21 : decode cX12_chosen 21 = .ok (.bipush (-5), 2) := by decide +kernel
theorem dX12_chosen_23 : decode cX12_chosen 23 = .ok (.istore_n 2, 1) := by decide +kernel
theorem dX12_chosen_24 : decode cX12_chosen 24 = .ok (.lconst 0, 1) := by decide +kernel
theorem dX12_chosen_25 : decode cX12_chosen 25 = .ok (.lstore_n 3, 1) := by decide +kernel
theorem dX12_chosen_26 : decode cX12_chosen 26 = .ok (.iconst 0, 1) := by decide +kernel
theorem dX12_chosen_27 : decode cX12_chosen 27 = .ok (.istore 5, 2) := by decide +kernel
theorem dX12_chosen_29 : decode cX12_chosen 29 = .ok (.iload 5, 2) := by decide +kernel
theorem dX12_chosen_31 : decode cX12_chosen 31 = .ok (.iconst 1, 1) := by decide +kernel
theorem dX12_chosen_32 : decode cX12_chosen 32 = .ok (.aload_n 0, 1) := by decide +kernel
theorem dX12_chosen_33 : decode cX12_chosen 33 = .ok (.getfield 7, 3) := by decide +kernel
theorem dX12_chosen_36 : decode cX12_chosen 36 = .ok (.ishl, 1) := by decide +kernel
theorem dX12_chosen_37 : decode cX12_chosen 37 = .ok (.if_icmp .ge 55, 3) := by decide +kernel
theorem dX12_chosen_40 : decode cX12_chosen 40 = .ok (.aload_n 0, 1) := by decide +kernel
theorem dX12_chosen_41 : decode cX12_chosen 41 = .ok (.iload 5, 2) := by decide +kernel
theorem dX12_chosen_43 : decode cX12_chosen 43 = .ok (.putfield 94, 3) := by decide +kernel
theorem dX12_chosen_46 : decode cX12_chosen 46 = .ok (.aload_n 0, 1) := by decide +kernel
theorem dX12_chosen_47 : decode cX12_chosen 47 = .ok (.iconst 2, 1) := by decide +kernel
theorem dX12_chosen_48 : decode cX12_chosen 48 = .ok (.iload_n 1, 1) := by decide +kernel
theorem dX12_chosen_49 : decode cX12_chosen 49 = .ok (.invokevirtual 323, 3) := by decide +kernel
theorem dX12_chosen_52 : decode cX12_chosen 52 = .ok (.iload_n 2, 1) := by decide +kernel
theorem dX12_chosen_53 : decode cX12_chosen 53 = .ok (.ifCond .lt 20, 3) := by decide +kernel
theorem dX12_chosen_56 : decode cX12_chosen 56 = .ok (.aload_n 0, 1) := by decide +kernel
theorem dX12_chosen_57 : decode cX12_chosen 57 = .ok (.getfield 90, 3) := by decide +kernel
theorem dX12_chosen_60 : decode cX12_chosen 60 = .ok (.aload_n 0, 1) := by decide +kernel
theorem dX12_chosen_61 : decode cX12_chosen 61 = .ok (.getfield 13, 3) := by decide +kernel
theorem dX12_chosen_64 : decode cX12_chosen 64 = .ok (.laload, 1) := by decide +kernel
theorem dX12_chosen_65 : decode cX12_chosen 65 = .ok (.lload_n 3, 1) := by decide +kernel
theorem dX12_chosen_66 : decode cX12_chosen 66 = .ok (.lcmp, 1) := by decide +kernel
theorem dX12_chosen_67 : decode cX12_chosen 67 = .ok (.ifCond .gt 6, 3) := by decide +kernel
theorem dX12_chosen_70 : decode cX12_chosen 70 = .ok (.goto 16, 3) := by decide +kernel
theorem dX12_chosen_73 : decode cX12_chosen 73 = .ok (.iload 5, 2) := by decide +kernel
theorem dX12_chosen_75 : decode cX12_chosen 75 = .ok (.istore_n 2, 1) := by decide +kernel
theorem dX12_chosen_76 : decode cX12_chosen 76 = .ok (.aload_n 0, 1) := by decide +kernel
theorem dX12_chosen_77 : decode cX12_chosen 77 = .ok (.getfield 90, 3) := by decide +kernel
theorem dX12_chosen_80 : decode cX12_chosen 80 = .ok (.aload_n 0, 1) := by decide +kernel
theorem dX12_chosen_81 : decode cX12_chosen 81 = .ok (.getfield 13, 3) := by decide +kernel
theorem dX12_chosen_84 : decode cX12_chosen 84 = .ok (.laload, 1) := by decide +kernel
theorem dX12_chosen_85 : decode cX12_chosen 85 = .ok (.lstore_n 3, 1) := by decide +kernel
theorem dX12_chosen_86 : decode cX12_chosen 86 = .ok (.iinc 5 1, 3) := by decide +kernel
theorem dX12_chosen_89 : decode cX12_chosen 89 = .ok (.goto (-60), 3) := by decide +kernel
theorem dX12_chosen_92 : decode cX12_chosen 92 = .ok (.iload_n 2, 1) := by decide +kernel
theorem dX12_chosen_93 : decode cX12_chosen 93 = .ok (.ireturn, 1) := by decide +kernel
set_option maxRecDepth 20000 in
theorem ggX12_wise_X12_isNeed : GoodIn wsX12_wise wsX12_isNeed := goodIn_r _ [6, 7, 8, 9, 10, 5, 11, 78, 79, 80, 81, 82, 83, 84, 85, 86, 87, 88, 89, 90, 91, 92, 93, 94, 95, 96, 97, 98, 99, 100, 101, 102, 103, 104, 105, 106, 107, 108, 109, 110, 111, 112, 113, 114, 115, 116, 117, 118, 119, 120, 121, 122, 123, 124, 125, 126, 127, 128, 129, 130, 131, 132, 133, 134, 135, 136, 137, 138, 139, 140] (by decide +kernel) (by decide +kernel)
set_option maxRecDepth 20000 in
theorem gX12_wise_X12_isNeed : GoodIn wsX12_wise (wsV RX12 215 RX12 yX12_isNeed wsX12_isNeed) := goodIn_app (goodIn_of _ (by decide +kernel)) ggX12_wise_X12_isNeed
set_option maxRecDepth 20000 in
theorem ggX12_wise_X12_in : GoodIn wsX12_wise wsX12_in := goodIn_r _ [11] (by decide +kernel) (by decide +kernel)
set_option maxRecDepth 20000 in
theorem gX12_wise_X12_in : GoodIn wsX12_wise (wsV RX12 207 RX12 yX12_in wsX12_in) := goodIn_app (goodIn_of _ (by decide +kernel)) ggX12_wise_X12_in
set_option maxRecDepth 20000 in
theorem ggX12_wise_X12_layGains : GoodIn wsX12_wise wsX12_layGains := goodIn_r _ [15, 16, 7, 17, 18, 19, 5, 20, 21, 22, 23, 24, 25, 26, 27, 28, 29, 30, 31, 32, 33, 34, 35, 36, 37, 38, 39, 40, 41, 42, 43, 44, 45, 46, 47, 48, 49, 50, 51, 52, 53, 54, 55, 56, 57, 58, 59, 60, 61, 62, 63, 64, 65, 66, 67, 68, 69, 70, 71, 72, 73, 74, 75, 76, 77, 78, 79, 80, 81, 82, 83, 84, 85, 86, 87, 88, 89, 90, 91, 92, 93, 94, 95, 96, 97, 98, 99, 100, 101, 102, 103, 104, 105, 106, 107, 108, 109, 110, 111, 112, 113, 114, 115, 116, 117, 118, 119, 120, 121, 122, 123, 124, 125, 126, 127, 128, 129, 130, 131, 132, 133, 134, 135, 136, 137, 138, 139, 140] (by decide +kernel) (by decide +kernel)
set_option maxRecDepth 20000 in
theorem gX12_wise_X12_layGains : GoodIn wsX12_wise (wsV RX12 323 RX12 yX12_layGains wsX12_layGains) := goodIn_app (goodIn_of _ (by decide +kernel)) ggX12_wise_X12_layGains
set_option maxRecDepth 20000 in
theorem ggX12_wise_X12_ifServed : GoodIn wsX12_wise wsX12_ifServed := goodIn_r _ [50, 21, 16, 27, 28, 29, 5, 30, 7, 51, 52, 53, 54, 55, 56, 57, 58, 59, 60, 61, 35, 36, 37, 38, 39, 40, 41, 42, 43, 44, 45, 46, 62, 63, 64, 65, 66, 67, 68, 69, 70, 71, 72, 73, 31, 32, 33, 34, 78, 79, 80, 81, 82, 83, 84, 85, 86, 87, 88, 89, 90, 91, 92, 93, 94, 95, 96, 97, 98, 99, 100, 101, 102, 103, 104, 105, 106, 107, 108, 109, 110, 111, 112, 113, 114, 115, 116, 117, 118, 119, 120, 121, 122, 123, 124, 125, 126, 127, 128, 129, 130, 131, 132, 133, 134, 135, 136, 137, 138, 139, 140] (by decide +kernel) (by decide +kernel)
set_option maxRecDepth 20000 in
theorem gX12_wise_X12_ifServed : GoodIn wsX12_wise (wsV RX12 303 RX12 yX12_ifServed wsX12_ifServed) := goodIn_app (goodIn_of _ (by decide +kernel)) ggX12_wise_X12_ifServed
set_option maxRecDepth 20000 in
theorem ggX12_wise_X12_ifSpared : GoodIn wsX12_wise wsX12_ifSpared := goodIn_r _ [26, 16, 27, 28, 29, 5, 30, 7, 31, 32, 33, 34, 35, 36, 37, 38, 39, 40, 41, 42, 43, 44, 45, 46, 78, 79, 80, 81, 82, 83, 84, 85, 86, 87, 88, 89, 90, 91, 92, 93, 94, 95, 96, 97, 98, 99, 100, 101, 102, 103, 104, 105, 106, 107, 108, 109, 110, 111, 112, 113, 114, 115, 116, 117, 118, 119, 120, 121, 122, 123, 124, 125, 126, 127, 128, 129, 130, 131, 132, 133, 134, 135, 136, 137, 138, 139, 140] (by decide +kernel) (by decide +kernel)
set_option maxRecDepth 20000 in
theorem gX12_wise_X12_ifSpared : GoodIn wsX12_wise (wsV RX12 299 RX12 yX12_ifSpared wsX12_ifSpared) := goodIn_app (goodIn_of _ (by decide +kernel)) ggX12_wise_X12_ifSpared
theorem dX12_wise_0 : decode cX12_wise 0 = .ok (.aload_n 0, 1) := by decide +kernel
theorem dX12_wise_1 : decode cX12_wise 1 = .ok (.iload_n 1, 1) := by decide +kernel
theorem dX12_wise_2 : decode cX12_wise 2 = .ok (.invokevirtual 215, 3) := by decide +kernel
theorem dX12_wise_5 : decode cX12_wise 5 = .ok (.ifCond .ne 5, 3) := by decide +kernel
theorem dX12_wise_8 : decode cX12_wise 8 = .ok (.iconst (-1), 1) := by decide +kernel
theorem dX12_wise_9 : decode cX12_wise 9 = .ok (.ireturn, 1) := by decide +kernel
theorem dX12_wise_10 : decode cX12_wise 10 = .ok (.aload_n 0, 1) := by decide +kernel
theorem dX12_wise_11 : decode cX12_wise 11 = .ok (.iload_n 2, 1) := by decide +kernel
theorem dX12_wise_12 : decode cX12_wise 12 = .ok (.iconst 1, 1) := by decide +kernel
theorem dX12_wise_13 : decode cX12_wise 13 = .ok (.bipush 8, 2) := by decide +kernel
theorem dX12_wise_15 : decode cX12_wise 15 = .ok (.invokevirtual 207, 3) := by decide +kernel
theorem dX12_wise_18 : decode cX12_wise 18 = .ok (.ifCond .ne 6, 3) := by decide +kernel
theorem dX12_wise_21 : decode cX12_wise 21 = .ok (.bipush (-2), 2) := by decide +kernel
theorem dX12_wise_23 : decode cX12_wise 23 = .ok (.ireturn, 1) := by decide +kernel
theorem dX12_wise_24 : decode cX12_wise 24 = .ok (.aload_n 0, 1) := by decide +kernel
theorem dX12_wise_25 : decode cX12_wise 25 = .ok (.getfield 13, 3) := by decide +kernel
theorem dX12_wise_28 : decode cX12_wise 28 = .ok (.ifCond .ne 5, 3) := by decide +kernel
theorem dX12_wise_31 : decode cX12_wise 31 = .ok (.iconst 0, 1) := by decide +kernel
theorem dX12_wise_32 : decode cX12_wise 32 = .ok (.ireturn, 1) := by decide +kernel
theorem dX12_wise_33 : decode cX12_wise 33 = .ok (.aload_n 0, 1) := by decide +kernel
theorem dX12_wise_34 : decode cX12_wise 34 = .ok (.iconst 0, 1) := by decide +kernel
theorem dX12_wise_35 : decode cX12_wise 35 = .ok (.iload_n 2, 1) := by decide +kernel
theorem dX12_wise_36 : decode cX12_wise 36 = .ok (.invokevirtual 323, 3) := by decide +kernel
theorem dX12_wise_39 : decode cX12_wise 39 = .ok (.aload_n 0, 1) := by decide +kernel
theorem dX12_wise_40 : decode cX12_wise 40 = .ok (.iload_n 1, 1) := by decide +kernel
theorem dX12_wise_41 : decode cX12_wise 41 = .ok (.iconst 0, 1) := by decide +kernel
theorem dX12_wise_42 : decode cX12_wise 42 = .ok (.iload_n 2, 1) := by decide +kernel
theorem dX12_wise_43 : decode cX12_wise 43 = .ok (.aload_n 0, 1) := by decide +kernel
theorem dX12_wise_44 : decode cX12_wise 44 = .ok (.getfield 13, 3) := by decide +kernel
theorem dX12_wise_47 : decode cX12_wise 47 = .ok (.invokevirtual 303, 3) := by decide +kernel
theorem dX12_wise_50 : decode cX12_wise 50 = .ok (.aload_n 0, 1) := by decide +kernel
theorem dX12_wise_51 : decode cX12_wise 51 = .ok (.iconst 0, 1) := by decide +kernel
theorem dX12_wise_52 : decode cX12_wise 52 = .ok (.iload_n 2, 1) := by decide +kernel
theorem dX12_wise_53 : decode cX12_wise 53 = .ok (.aload_n 0, 1) := by decide +kernel
theorem dX12_wise_54 : decode cX12_wise 54 = .ok (.getfield 13, 3) := by decide +kernel
theorem dX12_wise_57 : decode cX12_wise 57 = .ok (.invokevirtual 299, 3) := by decide +kernel
theorem dX12_wise_60 : decode cX12_wise 60 = .ok (.lcmp, 1) := by decide +kernel
theorem dX12_wise_61 : decode cX12_wise 61 = .ok (.ifCond .le 7, 3) := by decide +kernel
theorem dX12_wise_64 : decode cX12_wise 64 = .ok (.iconst 1, 1) := by decide +kernel
theorem dX12_wise_65 : decode cX12_wise 65 = .ok (.goto 4, 3) := by decide +kernel
theorem dX12_wise_68 : decode cX12_wise 68 = .ok (.iconst 0, 1) := by decide +kernel
theorem dX12_wise_69 : decode cX12_wise 69 = .ok (.ireturn, 1) := by decide +kernel
set_option maxRecDepth 20000 in
theorem ggX12_spent_X12_isAsked : GoodIn wsX12_spent wsX12_isAsked := goodIn_r _ [9, 3, 10, 11, 12, 8, 13, 14, 15, 16, 17, 92, 93, 94, 95, 96, 97, 98, 99, 100, 101, 102, 103, 104, 105, 106, 107, 108, 109, 110, 111, 112, 113, 114, 115, 116, 117, 118, 119, 120, 121, 122, 123, 124, 125, 126, 127, 128, 129, 130, 131, 132, 133, 134, 135, 136, 137, 138, 139, 140, 141, 142, 143, 144, 145, 146, 147, 148, 149, 150, 151, 152, 153, 154] (by decide +kernel) (by decide +kernel)
set_option maxRecDepth 20000 in
theorem gX12_spent_X12_isAsked : GoodIn wsX12_spent (wsV RX12 318 RX12 yX12_isAsked wsX12_isAsked) := goodIn_app (goodIn_of _ (by decide +kernel)) ggX12_spent_X12_isAsked
set_option maxRecDepth 20000 in
theorem ggX12_spent_X12_layGains : GoodIn wsX12_spent wsX12_layGains := goodIn_r _ [21, 22, 3, 23, 24, 25, 8, 26, 27, 28, 29, 30, 31, 32, 33, 34, 35, 36, 37, 38, 39, 40, 41, 42, 43, 44, 45, 46, 47, 48, 49, 50, 51, 52, 53, 54, 55, 56, 57, 58, 59, 60, 61, 62, 63, 64, 65, 66, 67, 68, 69, 70, 71, 72, 73, 74, 75, 76, 77, 78, 79, 80, 81, 82, 83, 92, 93, 94, 95, 96, 97, 98, 99, 100, 101, 102, 103, 104, 105, 106, 107, 108, 109, 110, 111, 112, 113, 114, 115, 116, 117, 118, 119, 120, 121, 122, 123, 124, 125, 126, 127, 128, 129, 130, 131, 132, 133, 134, 135, 136, 137, 138, 139, 140, 141, 142, 143, 144, 145, 146, 147, 148, 149, 150, 151, 152, 153, 154] (by decide +kernel) (by decide +kernel)
set_option maxRecDepth 20000 in
theorem gX12_spent_X12_layGains : GoodIn wsX12_spent (wsV RX12 323 RX12 yX12_layGains wsX12_layGains) := goodIn_app (goodIn_of _ (by decide +kernel)) ggX12_spent_X12_layGains
set_option maxRecDepth 20000 in
theorem ggX12_spent_X12_ifServed : GoodIn wsX12_spent wsX12_ifServed := goodIn_r _ [56, 27, 22, 33, 34, 35, 8, 36, 3, 57, 58, 59, 60, 61, 62, 63, 64, 65, 66, 67, 41, 42, 43, 44, 45, 46, 47, 48, 49, 50, 51, 52, 68, 69, 70, 71, 72, 73, 74, 75, 76, 77, 78, 79, 37, 38, 39, 40, 92, 93, 94, 95, 96, 97, 98, 99, 100, 101, 102, 103, 104, 105, 106, 107, 108, 109, 110, 111, 112, 113, 114, 115, 116, 117, 118, 119, 120, 121, 122, 123, 124, 125, 126, 127, 128, 129, 130, 131, 132, 133, 134, 135, 136, 137, 138, 139, 140, 141, 142, 143, 144, 145, 146, 147, 148, 149, 150, 151, 152, 153, 154] (by decide +kernel) (by decide +kernel)
set_option maxRecDepth 20000 in
theorem gX12_spent_X12_ifServed : GoodIn wsX12_spent (wsV RX12 303 RX12 yX12_ifServed wsX12_ifServed) := goodIn_app (goodIn_of _ (by decide +kernel)) ggX12_spent_X12_ifServed
set_option maxRecDepth 20000 in
theorem ggX12_spent_X12_ifSpared : GoodIn wsX12_spent wsX12_ifSpared := goodIn_r _ [32, 22, 33, 34, 35, 8, 36, 3, 37, 38, 39, 40, 41, 42, 43, 44, 45, 46, 47, 48, 49, 50, 51, 52, 92, 93, 94, 95, 96, 97, 98, 99, 100, 101, 102, 103, 104, 105, 106, 107, 108, 109, 110, 111, 112, 113, 114, 115, 116, 117, 118, 119, 120, 121, 122, 123, 124, 125, 126, 127, 128, 129, 130, 131, 132, 133, 134, 135, 136, 137, 138, 139, 140, 141, 142, 143, 144, 145, 146, 147, 148, 149, 150, 151, 152, 153, 154] (by decide +kernel) (by decide +kernel)
set_option maxRecDepth 20000 in
theorem gX12_spent_X12_ifSpared : GoodIn wsX12_spent (wsV RX12 299 RX12 yX12_ifSpared wsX12_ifSpared) := goodIn_app (goodIn_of _ (by decide +kernel)) ggX12_spent_X12_ifSpared
set_option maxRecDepth 20000 in
theorem ggX12_spent_X12_ways : GoodIn wsX12_spent wsX12_ways := goodIn_r _ [36, 3, 92, 93, 94, 95, 96, 97, 98, 99, 100, 101, 102, 103, 104, 105, 106, 107, 108, 109, 110, 111, 112, 113, 114, 115, 116, 117, 118, 119, 120, 121, 122, 123, 124, 125, 126, 127, 128, 129, 130, 131, 132, 133, 134, 135, 136, 137, 138, 139, 140, 141, 142, 143, 144, 145, 146, 147, 148, 149, 150, 151, 152, 153, 154] (by decide +kernel) (by decide +kernel)
set_option maxRecDepth 20000 in
theorem gX12_spent_X12_ways : GoodIn wsX12_spent (wsV RX12 295 RX12 yX12_ways wsX12_ways) := goodIn_app (goodIn_of _ (by decide +kernel)) ggX12_spent_X12_ways
set_option maxRecDepth 20000 in
theorem ggX12_spent_X12_lowest : GoodIn wsX12_spent wsX12_lowest := goodIn_r _ [87, 88, 89, 90, 8, 91] (by decide +kernel) (by decide +kernel)
set_option maxRecDepth 20000 in
theorem gX12_spent_X12_lowest : GoodIn wsX12_spent (wsV RX12 327 RX12 yX12_lowest wsX12_lowest) := goodIn_app (goodIn_of _ (by decide +kernel)) ggX12_spent_X12_lowest
theorem dX12_spent_0 : decode cX12_spent 0 = .ok (.aload_n 0, 1) := by decide +kernel
theorem dX12_spent_1 : decode cX12_spent 1 = .ok (.iload_n 1, 1) := by decide +kernel
theorem dX12_spent_2 : decode cX12_spent 2 = .ok (.iload_n 2, 1) := by decide +kernel
theorem dX12_spent_3 : decode cX12_spent 3 = .ok (.invokevirtual 318, 3) := by decide +kernel
theorem dX12_spent_6 : decode cX12_spent 6 = .ok (.ifCond .ne 7, 3) := by decide +kernel
theorem dX12_spent_9 : decode cX12_spent 9 = .ok (.ldc2_w 321, 3) := by decide +kernel
theorem dX12_spent_12 : decode cX12_spent 12 = .ok (.lreturn, 1) := by decide +kernel
theorem dX12_spent_13 : decode cX12_spent 13 = .ok (.aload_n 0, 1) := by decide +kernel
theorem dX12_spent_14 : decode cX12_spent 14 = .ok (.iconst 0, 1) := by decide +kernel
theorem dX12_spent_15 : decode cX12_spent 15 = .ok (.iload_n 1, 1) := by decide +kernel
theorem dX12_spent_16 : decode cX12_spent 16 = .ok (.invokevirtual 323, 3) := by decide +kernel
theorem dX12_spent_19 : decode cX12_spent 19 = .ok (.iconst 0, 1) := by decide +kernel
theorem dX12_spent_20 : decode cX12_spent 20 = .ok (.istore_n 3, 1) := by decide +kernel
theorem dX12_spent_21 : decode cX12_spent 21 = .ok (.iload_n 3, 1) := by decide +kernel
theorem dX12_spent_22 : decode cX12_spent 22 = .ok (.bipush 9, 2) := by decide +kernel
theorem dX12_spent_24 : decode cX12_spent 24 = .ok (.if_icmp .ge 29, 3) := by decide +kernel
theorem dX12_spent_27 : decode cX12_spent 27 = .ok (.aload_n 0, 1) := by decide +kernel
theorem dX12_spent_28 : decode cX12_spent 28 = .ok (.getfield 97, 3) := by decide +kernel
theorem dX12_spent_31 : decode cX12_spent 31 = .ok (.bipush 10, 2) := by decide +kernel
theorem dX12_spent_33 : decode cX12_spent 33 = .ok (.iload_n 1, 1) := by decide +kernel
theorem dX12_spent_34 : decode cX12_spent 34 = .ok (.imul, 1) := by decide +kernel
theorem dX12_spent_35 : decode cX12_spent 35 = .ok (.iload_n 3, 1) := by decide +kernel
theorem dX12_spent_36 : decode cX12_spent 36 = .ok (.iadd, 1) := by decide +kernel
theorem dX12_spent_37 : decode cX12_spent 37 = .ok (.iload_n 3, 1) := by decide +kernel
theorem dX12_spent_38 : decode cX12_spent 38 = .ok (.ifCond .ne 7, 3) := by decide +kernel
theorem dX12_spent_41 : decode cX12_spent 41 = .ok (.lconst 1, 1) := by decide +kernel
theorem dX12_spent_42 : decode cX12_spent 42 = .ok (.goto 4, 3) := by decide +kernel
theorem dX12_spent_45 : decode cX12_spent 45 = .ok (.lconst 0, 1) := by decide +kernel
theorem dX12_spent_46 : decode cX12_spent 46 = .ok (.lastore, 1) := by decide +kernel
theorem dX12_spent_47 : decode cX12_spent 47 = .ok (.iinc 3 1, 3) := by decide +kernel
theorem dX12_spent_50 : decode cX12_spent 50 = .ok (.goto (-29), 3) := by decide +kernel
theorem dX12_spent_53 : decode cX12_spent 53 = .ok (.iload_n 1, 1) := by decide +kernel
theorem dX12_spent_54 : decode cX12_spent 54 = .ok (.iconst 1, 1) := by decide +kernel
theorem dX12_spent_55 : decode cX12_spent 55 = .ok (.isub, 1) := by decide +kernel
theorem dX12_spent_56 : decode cX12_spent 56 = .ok (.istore_n 3, 1) := by decide +kernel
theorem dX12_spent_57 : decode cX12_spent 57 = .ok (.iload_n 3, 1) := by decide +kernel
theorem dX12_spent_58 : decode cX12_spent 58 = .ok (.ifCond .lt 114, 3) := by decide +kernel
theorem dX12_spent_61 : decode cX12_spent 61 = .ok (.iconst 0, 1) := by decide +kernel
theorem dX12_spent_62 : decode cX12_spent 62 = .ok (.istore 4, 2) := by decide +kernel
theorem dX12_spent_64 : decode cX12_spent 64 = .ok (.iload 4, 2) := by decide +kernel
theorem dX12_spent_66 : decode cX12_spent 66 = .ok (.bipush 9, 2) := by decide +kernel
theorem dX12_spent_68 : decode cX12_spent 68 = .ok (.if_icmp .ge 98, 3) := by decide +kernel
theorem dX12_spent_71 : decode cX12_spent 71 = .ok (.lconst 0, 1) := by decide +kernel
theorem dX12_spent_72 : decode cX12_spent 72 = .ok (.lstore 5, 2) := by decide +kernel
theorem dX12_spent_74 : decode cX12_spent 74 = .ok (.iconst 0, 1) := by decide +kernel
theorem dX12_spent_75 : decode cX12_spent 75 = .ok (.istore 7, 2) := by decide +kernel
theorem dX12_spent_77 : decode cX12_spent 77 = .ok (.iload 7, 2) := by decide +kernel
theorem dX12_spent_79 : decode cX12_spent 79 = .ok (.aload_n 0, 1) := by decide +kernel
theorem dX12_spent_80 : decode cX12_spent 80 = .ok (.getfield 7, 3) := by decide +kernel
theorem dX12_spent_83 : decode cX12_spent 83 = .ok (.if_icmp .ge 63, 3) := by decide +kernel
theorem dX12_spent_86 : decode cX12_spent 86 = .ok (.lload 5, 2) := by decide +kernel
theorem dX12_spent_88 : decode cX12_spent 88 = .ok (.aload_n 0, 1) := by decide +kernel
theorem dX12_spent_89 : decode cX12_spent 89 = .ok (.getfield 97, 3) := by decide +kernel
theorem dX12_spent_92 : decode cX12_spent 92 = .ok (.bipush 10, 2) := by decide +kernel
theorem dX12_spent_94 : decode cX12_spent 94 = .ok (.iload_n 3, 1) := by decide +kernel
theorem dX12_spent_95 : decode cX12_spent 95 = .ok (.imul, 1) := by decide +kernel
theorem dX12_spent_96 : decode cX12_spent 96 = .ok (.bipush 10, 2) := by decide +kernel
theorem dX12_spent_98 : decode cX12_spent 98 = .ok (.iadd, 1) := by decide +kernel
theorem dX12_spent_99 : decode cX12_spent 99 = .ok (.iload 4, 2) := by decide +kernel
theorem dX12_spent_101 : decode cX12_spent 101 = .ok (.ifCond .le 32, 3) := by decide +kernel
theorem dX12_spent_104 : decode cX12_spent 104 = .ok (.aload_n 0, 1) := by decide +kernel
theorem dX12_spent_105 : decode cX12_spent 105 = .ok (.iload 7, 2) := by decide +kernel
theorem dX12_spent_107 : decode cX12_spent 107 = .ok (.iload_n 3, 1) := by decide +kernel
theorem dX12_spent_108 : decode cX12_spent 108 = .ok (.iload_n 1, 1) := by decide +kernel
theorem dX12_spent_109 : decode cX12_spent 109 = .ok (.iload 4, 2) := by decide +kernel
theorem dX12_spent_111 : decode cX12_spent 111 = .ok (.invokevirtual 303, 3) := by decide +kernel
theorem dX12_spent_114 : decode cX12_spent 114 = .ok (.aload_n 0, 1) := by decide +kernel
theorem dX12_spent_115 : decode cX12_spent 115 = .ok (.iload_n 3, 1) := by decide +kernel
theorem dX12_spent_116 : decode cX12_spent 116 = .ok (.iload_n 1, 1) := by decide +kernel
theorem dX12_spent_117 : decode cX12_spent 117 = .ok (.iload 4, 2) := by decide +kernel
theorem dX12_spent_119 : decode cX12_spent 119 = .ok (.invokevirtual 299, 3) := by decide +kernel
theorem dX12_spent_122 : decode cX12_spent 122 = .ok (.lcmp, 1) := by decide +kernel
theorem dX12_spent_123 : decode cX12_spent 123 = .ok (.ifCond .le 10, 3) := by decide +kernel
theorem dX12_spent_126 : decode cX12_spent 126 = .ok (.iload 4, 2) := by decide +kernel
theorem dX12_spent_128 : decode cX12_spent 128 = .ok (.iconst 1, 1) := by decide +kernel
theorem dX12_spent_129 : decode cX12_spent 129 = .ok (.isub, 1) := by decide +kernel
theorem dX12_spent_130 : decode cX12_spent 130 = .ok (.goto 5, 3) := by decide +kernel
theorem dX12_spent_133 : decode cX12_spent 133 = .ok (.iload 4, 2) := by decide +kernel
theorem dX12_spent_135 : decode cX12_spent 135 = .ok (.iadd, 1) := by decide +kernel
theorem dX12_spent_136 : decode cX12_spent 136 = .ok (.laload, 1) := by decide +kernel
theorem dX12_spent_137 : decode cX12_spent 137 = .ok (.ladd, 1) := by decide +kernel
theorem dX12_spent_138 : decode cX12_spent 138 = .ok (.lstore 5, 2) := by decide +kernel
theorem dX12_spent_140 : decode cX12_spent 140 = .ok (.iinc 7 1, 3) := by decide +kernel
theorem dX12_spent_143 : decode cX12_spent 143 = .ok (.goto (-66), 3) := by decide +kernel
theorem dX12_spent_146 : decode cX12_spent 146 = .ok (.aload_n 0, 1) := by decide +kernel
theorem dX12_spent_147 : decode cX12_spent 147 = .ok (.getfield 97, 3) := by decide +kernel
theorem dX12_spent_150 : decode cX12_spent 150 = .ok (.bipush 10, 2) := by decide +kernel
theorem dX12_spent_152 : decode cX12_spent 152 = .ok (.iload_n 3, 1) := by decide +kernel
theorem dX12_spent_153 : decode cX12_spent 153 = .ok (.imul, 1) := by decide +kernel
theorem dX12_spent_154 : decode cX12_spent 154 = .ok (.iload 4, 2) := by decide +kernel
theorem dX12_spent_156 : decode cX12_spent 156 = .ok (.iadd, 1) := by decide +kernel
theorem dX12_spent_157 : decode cX12_spent 157 = .ok (.lload 5, 2) := by decide +kernel
theorem dX12_spent_159 : decode cX12_spent 159 = .ok (.lastore, 1) := by decide +kernel
theorem dX12_spent_160 : decode cX12_spent 160 = .ok (.iinc 4 1, 3) := by decide +kernel
theorem dX12_spent_163 : decode cX12_spent 163 = .ok (.goto (-99), 3) := by decide +kernel
theorem dX12_spent_166 : decode cX12_spent 166 = .ok (.iinc 3 (-1), 3) := by decide +kernel
theorem dX12_spent_169 : decode cX12_spent 169 = .ok (.goto (-112), 3) := by decide +kernel
theorem dX12_spent_172 : decode cX12_spent 172 = .ok (.aload_n 0, 1) := by decide +kernel
theorem dX12_spent_173 : decode cX12_spent 173 = .ok (.aload_n 0, 1) := by decide +kernel
theorem dX12_spent_174 : decode cX12_spent 174 = .ok (.getfield 97, 3) := by decide +kernel
theorem dX12_spent_177 : decode cX12_spent 177 = .ok (.aload_n 0, 1) := by decide +kernel
theorem dX12_spent_178 : decode cX12_spent 178 = .ok (.getfield 13, 3) := by decide +kernel
theorem dX12_spent_181 : decode cX12_spent 181 = .ok (.laload, 1) := by decide +kernel
theorem dX12_spent_182 : decode cX12_spent 182 = .ok (.aload_n 0, 1) := by decide +kernel
theorem dX12_spent_183 : decode cX12_spent 183 = .ok (.iload_n 1, 1) := by decide +kernel
theorem dX12_spent_184 : decode cX12_spent 184 = .ok (.invokevirtual 295, 3) := by decide +kernel
theorem dX12_spent_187 : decode cX12_spent 187 = .ok (.iload_n 2, 1) := by decide +kernel
theorem dX12_spent_188 : decode cX12_spent 188 = .ok (.invokevirtual 327, 3) := by decide +kernel
theorem dX12_spent_191 : decode cX12_spent 191 = .ok (.lreturn, 1) := by decide +kernel
set_option maxRecDepth 20000 in
theorem ggX12_threshold_X12_in : GoodIn wsX12_threshold wsX12_in := goodIn_r _ [8] (by decide +kernel) (by decide +kernel)
set_option maxRecDepth 20000 in
theorem gX12_threshold_X12_in : GoodIn wsX12_threshold (wsV RX12 207 RX12 yX12_in wsX12_in) := goodIn_app (goodIn_of _ (by decide +kernel)) ggX12_threshold_X12_in
set_option maxRecDepth 20000 in
theorem ggX12_threshold_X12_layGains : GoodIn wsX12_threshold wsX12_layGains := goodIn_r _ [12, 3, 2, 13, 14, 15, 7, 16, 17, 18, 19, 20, 21, 22, 23, 24, 25, 26, 27, 28, 29, 30, 31, 32, 33, 34, 35, 36, 37, 38, 39, 40, 41, 42, 43, 44, 45, 46, 47, 48, 49, 50, 51, 52, 53, 54, 55, 56, 57, 58, 59, 60, 61, 62, 63, 64, 65, 66, 67, 68, 69, 70, 71, 72, 73, 74, 75, 76, 77, 78, 79, 80, 81, 82, 83, 84, 85, 86, 87, 88, 89, 90, 91, 92, 93, 94, 95, 96, 97, 98, 99, 100, 101, 102, 103, 104, 105, 106, 107, 108, 109, 110, 111, 112, 113, 114, 115, 116, 117, 118, 119, 120, 121, 122, 123, 124, 125, 126, 127, 128, 129, 130, 131, 132, 133, 134, 135, 136] (by decide +kernel) (by decide +kernel)
set_option maxRecDepth 20000 in
theorem gX12_threshold_X12_layGains : GoodIn wsX12_threshold (wsV RX12 323 RX12 yX12_layGains wsX12_layGains) := goodIn_app (goodIn_of _ (by decide +kernel)) ggX12_threshold_X12_layGains
set_option maxRecDepth 20000 in
theorem ggX12_threshold_X12_ifSpared : GoodIn wsX12_threshold wsX12_ifSpared := goodIn_r _ [22, 3, 23, 24, 25, 7, 26, 2, 27, 28, 29, 30, 31, 32, 33, 34, 35, 36, 37, 38, 39, 40, 41, 42, 74, 75, 76, 77, 78, 79, 80, 81, 82, 83, 84, 85, 86, 87, 88, 89, 90, 91, 92, 93, 94, 95, 96, 97, 98, 99, 100, 101, 102, 103, 104, 105, 106, 107, 108, 109, 110, 111, 112, 113, 114, 115, 116, 117, 118, 119, 120, 121, 122, 123, 124, 125, 126, 127, 128, 129, 130, 131, 132, 133, 134, 135, 136] (by decide +kernel) (by decide +kernel)
set_option maxRecDepth 20000 in
theorem gX12_threshold_X12_ifSpared : GoodIn wsX12_threshold (wsV RX12 299 RX12 yX12_ifSpared wsX12_ifSpared) := goodIn_app (goodIn_of _ (by decide +kernel)) ggX12_threshold_X12_ifSpared
set_option maxRecDepth 20000 in
theorem ggX12_threshold_X12_ways : GoodIn wsX12_threshold wsX12_ways := goodIn_r _ [26, 2, 74, 75, 76, 77, 78, 79, 80, 81, 82, 83, 84, 85, 86, 87, 88, 89, 90, 91, 92, 93, 94, 95, 96, 97, 98, 99, 100, 101, 102, 103, 104, 105, 106, 107, 108, 109, 110, 111, 112, 113, 114, 115, 116, 117, 118, 119, 120, 121, 122, 123, 124, 125, 126, 127, 128, 129, 130, 131, 132, 133, 134, 135, 136] (by decide +kernel) (by decide +kernel)
set_option maxRecDepth 20000 in
theorem gX12_threshold_X12_ways : GoodIn wsX12_threshold (wsV RX12 295 RX12 yX12_ways wsX12_ways) := goodIn_app (goodIn_of _ (by decide +kernel)) ggX12_threshold_X12_ways
set_option maxRecDepth 20000 in
theorem ggX12_threshold_X12_keep : GoodIn wsX12_threshold wsX12_keep := goodIn_r _ [30, 31, 32, 33, 34, 35, 7, 36, 37, 38, 39, 40, 41, 42, 74, 75, 76, 77, 78, 79, 80, 81, 82, 83, 84, 85, 86, 87, 88, 89, 90, 91, 92, 93, 94, 95, 96, 97, 98, 99, 100, 101, 102, 103, 104, 105, 106, 107, 108, 109, 110, 111, 112, 113, 114, 115, 116, 117, 118, 119, 120, 121, 122, 123, 124, 125, 126, 127, 128, 129, 130, 131, 132, 133, 134, 135, 136] (by decide +kernel) (by decide +kernel)
set_option maxRecDepth 20000 in
theorem gX12_threshold_X12_keep : GoodIn wsX12_threshold (wsV RX12 289 RX12 yX12_keep wsX12_keep) := goodIn_app (goodIn_of _ (by decide +kernel)) ggX12_threshold_X12_keep
theorem dX12_threshold_0 : decode cX12_threshold 0 = .ok (.aload_n 0, 1) := by decide +kernel
theorem dX12_threshold_1 : decode cX12_threshold 1 = .ok (.iload_n 1, 1) := by decide +kernel
theorem dX12_threshold_2 : decode cX12_threshold 2 = .ok (.iconst 1, 1) := by decide +kernel
theorem dX12_threshold_3 : decode cX12_threshold 3 = .ok (.bipush 8, 2) := by decide +kernel
theorem dX12_threshold_5 : decode cX12_threshold 5 = .ok (.invokevirtual 207, 3) := by decide +kernel
theorem dX12_threshold_8 : decode cX12_threshold 8 = .ok (.ifCond .ne 6, 3) := by decide +kernel
theorem dX12_threshold_11 : decode cX12_threshold 11 = .ok (.bipush (-2), 2) := by decide +kernel
theorem dX12_threshold_13 : decode cX12_threshold 13 = .ok (.ireturn, 1) := by decide +kernel
theorem dX12_threshold_14 : decode cX12_threshold 14 = .ok (.aload_n 0, 1) := by decide +kernel
theorem dX12_threshold_15 : decode cX12_threshold 15 = .ok (.getfield 13, 3) := by decide +kernel
theorem dX12_threshold_18 : decode cX12_threshold 18 = .ok (.ifCond .eq 10, 3) := by decide +kernel
theorem dX12_threshold_21 : decode cX12_threshold 21 = .ok (.aload_n 0, 1) := by decide +kernel
theorem dX12_threshold_22 : decode cX12_threshold 22 = .ok (.getfield 7, 3) := by decide +kernel
theorem dX12_threshold_25 : decode cX12_threshold 25 = .ok (.ifCond .ne 6, 3) := by decide +kernel
theorem dX12_threshold_28 : decode cX12_threshold 28 = .ok (.bipush (-5), 2) := by decide +kernel
theorem dX12_threshold_30 : decode cX12_threshold 30 = .ok (.ireturn, 1) := by decide +kernel
theorem dX12_threshold_31 : decode cX12_threshold 31 = .ok (.aload_n 0, 1) := by decide +kernel
theorem dX12_threshold_32 : decode cX12_threshold 32 = .ok (.iconst 0, 1) := by decide +kernel
theorem dX12_threshold_33 : decode cX12_threshold 33 = .ok (.iload_n 1, 1) := by decide +kernel
theorem dX12_threshold_34 : decode cX12_threshold 34 = .ok (.invokevirtual 323, 3) := by decide +kernel
theorem dX12_threshold_37 : decode cX12_threshold 37 = .ok (.aload_n 0, 1) := by decide +kernel
theorem dX12_threshold_38 : decode cX12_threshold 38 = .ok (.iconst 0, 1) := by decide +kernel
theorem dX12_threshold_39 : decode cX12_threshold 39 = .ok (.iload_n 1, 1) := by decide +kernel
theorem dX12_threshold_40 : decode cX12_threshold 40 = .ok (.aload_n 0, 1) := by decide +kernel
theorem dX12_threshold_41 : decode cX12_threshold 41 = .ok (.getfield 13, 3) := by decide +kernel
theorem dX12_threshold_44 : decode cX12_threshold 44 = .ok (.invokevirtual 299, 3) := by decide +kernel
theorem dX12_threshold_47 : decode cX12_threshold 47 = .ok (.lstore_n 2, 1) := by decide +kernel
theorem dX12_threshold_48 : decode cX12_threshold 48 = .ok (.iconst 0, 1) := by decide +kernel
theorem dX12_threshold_49 : decode cX12_threshold 49 = .ok (.istore 4, 2) := by decide +kernel
theorem dX12_threshold_51 : decode cX12_threshold 51 = .ok (.iload 4, 2) := by decide +kernel
theorem dX12_threshold_53 : decode cX12_threshold 53 = .ok (.sipush 1000, 3) := by decide +kernel
theorem dX12_threshold_56 : decode cX12_threshold 56 = .ok (.if_icmp .ge 55, 3) := by decide +kernel
theorem dX12_threshold_59 : decode cX12_threshold 59 = .ok (.aload_n 0, 1) := by decide +kernel
theorem dX12_threshold_60 : decode cX12_threshold 60 = .ok (.iload_n 1, 1) := by decide +kernel
theorem dX12_threshold_61 : decode cX12_threshold 61 = .ok (.iconst 1, 1) := by decide +kernel
theorem dX12_threshold_62 : decode cX12_threshold 62 = .ok (.isub, 1) := by decide +kernel
theorem dX12_threshold_63 : decode cX12_threshold 63 = .ok (.invokevirtual 295, 3) := by decide +kernel
theorem dX12_threshold_66 : decode cX12_threshold 66 = .ok (.iload 4, 2) := by decide +kernel
theorem dX12_threshold_68 : decode cX12_threshold 68 = .ok (.aload_n 0, 1) := by decide +kernel
theorem dX12_threshold_69 : decode cX12_threshold 69 = .ok (.invokevirtual 289, 3) := by decide +kernel
theorem dX12_threshold_72 : decode cX12_threshold 72 = .ok (.aload_n 0, 1) := by decide +kernel
theorem dX12_threshold_73 : decode cX12_threshold 73 = .ok (.getfield 13, 3) := by decide +kernel
theorem dX12_threshold_76 : decode cX12_threshold 76 = .ok (.iconst 1, 1) := by decide +kernel
theorem dX12_threshold_77 : decode cX12_threshold 77 = .ok (.isub, 1) := by decide +kernel
theorem dX12_threshold_78 : decode cX12_threshold 78 = .ok (.imul, 1) := by decide +kernel
theorem dX12_threshold_79 : decode cX12_threshold 79 = .ok (.isub, 1) := by decide +kernel
theorem dX12_threshold_80 : decode cX12_threshold 80 = .ok (.i2l, 1) := by decide +kernel
theorem dX12_threshold_81 : decode cX12_threshold 81 = .ok (.lmul, 1) := by decide +kernel
theorem dX12_threshold_82 : decode cX12_threshold 82 = .ok (.aload_n 0, 1) := by decide +kernel
theorem dX12_threshold_83 : decode cX12_threshold 83 = .ok (.getfield 90, 3) := by decide +kernel
theorem dX12_threshold_86 : decode cX12_threshold 86 = .ok (.bipush 10, 2) := by decide +kernel
theorem dX12_threshold_88 : decode cX12_threshold 88 = .ok (.aload_n 0, 1) := by decide +kernel
theorem dX12_threshold_89 : decode cX12_threshold 89 = .ok (.getfield 13, 3) := by decide +kernel
theorem dX12_threshold_92 : decode cX12_threshold 92 = .ok (.iadd, 1) := by decide +kernel
theorem dX12_threshold_93 : decode cX12_threshold 93 = .ok (.iconst 1, 1) := by decide +kernel
theorem dX12_threshold_94 : decode cX12_threshold 94 = .ok (.isub, 1) := by decide +kernel
theorem dX12_threshold_95 : decode cX12_threshold 95 = .ok (.laload, 1) := by decide +kernel
theorem dX12_threshold_96 : decode cX12_threshold 96 = .ok (.ladd, 1) := by decide +kernel
theorem dX12_threshold_97 : decode cX12_threshold 97 = .ok (.lload_n 2, 1) := by decide +kernel
theorem dX12_threshold_98 : decode cX12_threshold 98 = .ok (.lcmp, 1) := by decide +kernel
theorem dX12_threshold_99 : decode cX12_threshold 99 = .ok (.ifCond .le 6, 3) := by decide +kernel
theorem dX12_threshold_102 : decode cX12_threshold 102 = .ok (.iload 4, 2) := by decide +kernel
theorem dX12_threshold_104 : decode cX12_threshold 104 = .ok (.ireturn, 1) := by decide +kernel
theorem dX12_threshold_105 : decode cX12_threshold 105 = .ok (.iinc 4 1, 3) := by decide +kernel
theorem dX12_threshold_108 : decode cX12_threshold 108 = .ok (.goto (-57), 3) := by decide +kernel
theorem dX12_threshold_111 : decode cX12_threshold 111 = .ok (.bipush (-5), 2) := by decide +kernel
theorem dX12_threshold_113 : decode cX12_threshold 113 = .ok (.ireturn, 1) := by decide +kernel
set_option maxRecDepth 20000 in
theorem ggX12_century_X12_isNeed : GoodIn wsX12_century wsX12_isNeed := goodIn_r _ [7, 8, 9, 10, 11, 6, 12, 13, 14, 15, 16, 17, 18, 19, 20, 21, 22, 23, 24, 25, 26, 27, 28, 29, 30, 31, 32, 33, 34, 35, 36, 37, 38, 39, 40, 41, 42, 43, 44, 45, 46, 47, 48, 49, 50, 51, 52, 53, 54, 55, 56, 57, 58, 59, 60, 61, 62, 63, 64, 65, 66, 67, 68, 69, 70, 71, 72, 73, 74, 75] (by decide +kernel) (by decide +kernel)
set_option maxRecDepth 20000 in
theorem gX12_century_X12_isNeed : GoodIn wsX12_century (wsV RX12 215 RX12 yX12_isNeed wsX12_isNeed) := goodIn_app (goodIn_of _ (by decide +kernel)) ggX12_century_X12_isNeed
theorem dX12_century_0 : decode cX12_century 0 = .ok (.iload_n 1, 1) := by decide +kernel
theorem dX12_century_1 : decode cX12_century 1 = .ok (.iconst (-1), 1) := by decide +kernel
theorem dX12_century_2 : decode cX12_century 2 = .ok (.if_icmp .ne 10, 3) := by decide +kernel
theorem dX12_century_5 : decode cX12_century 5 = .ok (.aload_n 0, 1) := by decide +kernel
theorem dX12_century_6 : decode cX12_century 6 = .ok (.iconst 0, 1) := by decide +kernel
theorem dX12_century_7 : decode cX12_century 7 = .ok (.putfield 100, 3) := by decide +kernel
theorem dX12_century_10 : decode cX12_century 10 = .ok (.iconst 0, 1) := by decide +kernel
theorem dX12_century_11 : decode cX12_century 11 = .ok (.ireturn, 1) := by decide +kernel
theorem dX12_century_12 : decode cX12_century 12 = .ok (.aload_n 0, 1) := by decide +kernel
theorem dX12_century_13 : decode cX12_century 13 = .ok (.iload_n 1, 1) := by decide +kernel
theorem dX12_century_14 : decode cX12_century 14 = .ok (.invokevirtual 215, 3) := by decide +kernel
theorem dX12_century_17 : decode cX12_century 17 = .ok (.ifCond .ne 5, 3) := by decide +kernel
theorem dX12_century_20 : decode cX12_century 20 = .ok (.iconst (-1), 1) := by decide +kernel
theorem dX12_century_21 : decode cX12_century 21 = .ok (.ireturn, 1) := by decide +kernel
theorem dX12_century_22 : decode cX12_century 22 = .ok (.aload_n 0, 1) := by decide +kernel
theorem dX12_century_23 : decode cX12_century 23 = .ok (.getfield 100, 3) := by decide +kernel
theorem dX12_century_26 : decode cX12_century 26 = .ok (.bipush 8, 2) := by decide +kernel
theorem dX12_century_28 : decode cX12_century 28 = .ok (.if_icmp .ne 6, 3) := by decide +kernel
theorem dX12_century_31 : decode cX12_century 31 = .ok (.bipush (-4), 2) := by decide +kernel
theorem dX12_century_33 : decode cX12_century 33 = .ok (.ireturn, 1) := by decide +kernel
theorem dX12_century_34 : decode cX12_century 34 = .ok (.aload_n 0, 1) := by decide +kernel
theorem dX12_century_35 : decode cX12_century 35 = .ok (.getfield 103, 3) := by decide +kernel
theorem dX12_century_38 : decode cX12_century 38 = .ok (.aload_n 0, 1) := by decide +kernel
theorem dX12_century_39 : decode cX12_century 39 = .ok (.getfield 100, 3) := by decide +kernel
theorem dX12_century_42 : decode cX12_century 42 = .ok (.iload_n 1, 1) := by decide +kernel
theorem dX12_century_43 : decode cX12_century 43 = .ok (.iastore, 1) := by decide +kernel
theorem dX12_century_44 : decode cX12_century 44 = .ok (.aload_n 0, 1) := by decide +kernel
theorem dX12_century_45 : decode cX12_century 45 = .ok (.dup, 1) := by decide +kernel
theorem dX12_century_46 : decode cX12_century 46 = .ok (.getfield 100, 3) := by decide +kernel
theorem dX12_century_49 : decode cX12_century 49 = .ok (.iconst 1, 1) := by decide +kernel
theorem dX12_century_50 : decode cX12_century 50 = .ok (.iadd, 1) := by decide +kernel
theorem dX12_century_51 : decode cX12_century 51 = .ok (.putfield 100, 3) := by decide +kernel
theorem dX12_century_54 : decode cX12_century 54 = .ok (.aload_n 0, 1) := by decide +kernel
theorem dX12_century_55 : decode cX12_century 55 = .ok (.getfield 100, 3) := by decide +kernel
theorem dX12_century_58 : decode cX12_century 58 = .ok (.ireturn, 1) := by decide +kernel
set_option maxRecDepth 20000 in
theorem ggX12_gainBy_X12_has : GoodIn wsX12_gainBy wsX12_has := goodIn_r _ [9] (by decide +kernel) (by decide +kernel)
set_option maxRecDepth 20000 in
theorem gX12_gainBy_X12_has : GoodIn wsX12_gainBy (wsV RX12 203 RX12 yX12_has wsX12_has) := goodIn_app (goodIn_of _ (by decide +kernel)) ggX12_gainBy_X12_has
set_option maxRecDepth 20000 in
theorem ggX12_gainBy_X12_worthOf : GoodIn wsX12_gainBy wsX12_worthOf := goodIn_r _ [13, 14, 15, 16, 17, 18, 19, 8, 20, 21, 22, 23, 24, 25, 26, 27, 28, 29, 30, 31, 32, 33, 34, 35, 36, 37, 38, 39, 40, 41, 42, 43, 44, 49, 50, 51, 52, 53, 54, 55, 56, 57, 58, 59, 60, 61, 62, 63, 64, 65, 66, 67, 68, 69, 70, 71, 72, 73, 74, 75, 76, 77, 78, 79, 80, 81, 82, 83, 84, 85, 86, 87, 88, 89, 90, 91, 92, 93, 94, 95, 96, 97, 98, 99, 100, 101, 102, 103, 104, 105, 106, 107, 108, 109, 110, 111] (by decide +kernel) (by decide +kernel)
set_option maxRecDepth 20000 in
theorem gX12_gainBy_X12_worthOf : GoodIn wsX12_gainBy (wsV RX12 282 RX12 yX12_worthOf wsX12_worthOf) := goodIn_app (goodIn_of _ (by decide +kernel)) ggX12_gainBy_X12_worthOf
set_option maxRecDepth 20000 in
theorem ggX12_gainBy_X12_keep : GoodIn wsX12_gainBy wsX12_keep := goodIn_r _ [48, 21, 22, 23, 24, 25, 8, 26, 27, 28, 29, 30, 31, 32, 49, 50, 51, 52, 53, 54, 55, 56, 57, 58, 59, 60, 61, 62, 63, 64, 65, 66, 67, 68, 69, 70, 71, 72, 73, 74, 75, 76, 77, 78, 79, 80, 81, 82, 83, 84, 85, 86, 87, 88, 89, 90, 91, 92, 93, 94, 95, 96, 97, 98, 99, 100, 101, 102, 103, 104, 105, 106, 107, 108, 109, 110, 111] (by decide +kernel) (by decide +kernel)
set_option maxRecDepth 20000 in
theorem gX12_gainBy_X12_keep : GoodIn wsX12_gainBy (wsV RX12 289 RX12 yX12_keep wsX12_keep) := goodIn_app (goodIn_of _ (by decide +kernel)) ggX12_gainBy_X12_keep
theorem dX12_gainBy_0 : decode cX12_gainBy 0 = .ok (.aload_n 0, 1) := by decide +kernel
theorem dX12_gainBy_1 : decode cX12_gainBy 1 = .ok (.getfield 13, 3) := by decide +kernel
theorem dX12_gainBy_4 : decode cX12_gainBy 4 = .ok (.istore_n 2, 1) := by decide +kernel
theorem dX12_gainBy_5 : decode cX12_gainBy 5 = .ok (.iconst 0, 1) := by decide +kernel
theorem dX12_gainBy_6 : decode cX12_gainBy 6 = .ok (.istore_n 3, 1) := by decide +kernel
theorem dX12_gainBy_7 : decode cX12_gainBy 7 = .ok (.iconst 0, 1) := by decide +kernel
theorem dX12_gainBy_8 : decode cX12_gainBy 8 = .ok (.istore 4, 2) := by decide +kernel
theorem dX12_gainBy_10 : decode cX12_gainBy 10 = .ok (.iload 4, 2) := by decide +kernel
theorem dX12_gainBy_12 : decode cX12_gainBy 12 = .ok (.aload_n 0, 1) := by decide +kernel
theorem dX12_gainBy_13 : decode cX12_gainBy 13 = .ok (.getfield 100, 3) := by decide +kernel
theorem dX12_gainBy_16 : decode cX12_gainBy 16 = .ok (.if_icmp .ge 57, 3) := by decide +kernel
theorem dX12_gainBy_19 : decode cX12_gainBy 19 = .ok (.aload_n 0, 1) := by decide +kernel
theorem dX12_gainBy_20 : decode cX12_gainBy 20 = .ok (.iload_n 1, 1) := by decide +kernel
theorem dX12_gainBy_21 : decode cX12_gainBy 21 = .ok (.iload 4, 2) := by decide +kernel
theorem dX12_gainBy_23 : decode cX12_gainBy 23 = .ok (.invokevirtual 203, 3) := by decide +kernel
theorem dX12_gainBy_26 : decode cX12_gainBy 26 = .ok (.ifCond .eq 32, 3) := by decide +kernel
theorem dX12_gainBy_29 : decode cX12_gainBy 29 = .ok (.iload_n 2, 1) := by decide +kernel
theorem dX12_gainBy_30 : decode cX12_gainBy 30 = .ok (.ifCond .le 28, 3) := by decide +kernel
theorem dX12_gainBy_33 : decode cX12_gainBy 33 = .ok (.iload_n 3, 1) := by decide +kernel
theorem dX12_gainBy_34 : decode cX12_gainBy 34 = .ok (.aload_n 0, 1) := by decide +kernel
theorem dX12_gainBy_35 : decode cX12_gainBy 35 = .ok (.aload_n 0, 1) := by decide +kernel
theorem dX12_gainBy_36 : decode cX12_gainBy 36 = .ok (.getfield 103, 3) := by decide +kernel
theorem dX12_gainBy_39 : decode cX12_gainBy 39 = .ok (.iload 4, 2) := by decide +kernel
theorem dX12_gainBy_41 : decode cX12_gainBy 41 = .ok (.iaload, 1) := by decide +kernel
theorem dX12_gainBy_42 : decode cX12_gainBy 42 = .ok (.aload_n 0, 1) := by decide +kernel
theorem dX12_gainBy_43 : decode cX12_gainBy 43 = .ok (.getfield 19, 3) := by decide +kernel
theorem dX12_gainBy_46 : decode cX12_gainBy 46 = .ok (.iload 4, 2) := by decide +kernel
theorem dX12_gainBy_48 : decode cX12_gainBy 48 = .ok (.iadd, 1) := by decide +kernel
theorem dX12_gainBy_49 : decode cX12_gainBy 49 = .ok (.iload_n 2, 1) := by decide +kernel
theorem dX12_gainBy_50 : decode cX12_gainBy 50 = .ok (.invokevirtual 282, 3) := by decide +kernel
theorem dX12_gainBy_53 : decode cX12_gainBy 53 = .ok (.iadd, 1) := by decide +kernel
theorem dX12_gainBy_54 : decode cX12_gainBy 54 = .ok (.istore_n 3, 1) := by decide +kernel
theorem dX12_gainBy_55 : decode cX12_gainBy 55 = .ok (.iinc 2 (-1), 3) := by decide +kernel
theorem dX12_gainBy_58 : decode cX12_gainBy 58 = .ok (.iload_n 3, 1) := by decide +kernel
theorem dX12_gainBy_59 : decode cX12_gainBy 59 = .ok (.aload_n 0, 1) := by decide +kernel
theorem dX12_gainBy_60 : decode cX12_gainBy 60 = .ok (.invokevirtual 289, 3) := by decide +kernel
theorem dX12_gainBy_63 : decode cX12_gainBy 63 = .ok (.iload_n 2, 1) := by decide +kernel
theorem dX12_gainBy_64 : decode cX12_gainBy 64 = .ok (.imul, 1) := by decide +kernel
theorem dX12_gainBy_65 : decode cX12_gainBy 65 = .ok (.isub, 1) := by decide +kernel
theorem dX12_gainBy_66 : decode cX12_gainBy 66 = .ok (.istore_n 3, 1) := by decide +kernel
theorem dX12_gainBy_67 : decode cX12_gainBy 67 = .ok (.iinc 4 1, 3) := by decide +kernel
theorem dX12_gainBy_70 : decode cX12_gainBy 70 = .ok (.goto (-60), 3) := by decide +kernel
theorem dX12_gainBy_73 : decode cX12_gainBy 73 = .ok (.iload_n 3, 1) := by decide +kernel
theorem dX12_gainBy_74 : decode cX12_gainBy 74 = .ok (.ireturn, 1) := by decide +kernel
set_option maxRecDepth 20000 in
theorem ggX12_bestSet_X12_bits : GoodIn wsX12_bestSet wsX12_bits := goodIn_r _ [7, 8, 9, 10, 6, 11] (by decide +kernel) (by decide +kernel)
set_option maxRecDepth 20000 in
theorem gX12_bestSet_X12_bits : GoodIn wsX12_bestSet (wsV RX12 331 RX12 yX12_bits wsX12_bits) := goodIn_app (goodIn_of _ (by decide +kernel)) ggX12_bestSet_X12_bits
set_option maxRecDepth 20000 in
theorem ggX12_bestSet_X12_gainBy : GoodIn wsX12_bestSet wsX12_gainBy := goodIn_r _ [15, 2, 1, 16, 17, 8, 9, 10, 6, 11, 18, 19, 20, 21, 22, 23, 24, 25, 26, 27, 28, 29, 30, 31, 32, 33, 34, 35, 36, 37, 38, 39, 40, 41, 42, 43, 44, 45, 46, 47, 48, 49, 50, 51, 52, 53, 54, 55, 56, 57, 58, 59, 60, 61, 62, 63, 64, 65, 66, 67, 68, 69, 70, 71, 72, 73, 74, 75, 76, 77, 78, 79, 80, 81, 82, 83, 84, 85, 86, 87, 88, 89, 90, 91, 92, 93, 94, 95, 96, 97, 98, 99, 100, 101, 102, 103, 104, 105, 106, 107, 108, 109, 110, 111, 112, 113, 114, 115, 116, 117, 118, 119] (by decide +kernel) (by decide +kernel)
set_option maxRecDepth 20000 in
theorem gX12_bestSet_X12_gainBy : GoodIn wsX12_bestSet (wsV RX12 334 RX12 yX12_gainBy wsX12_gainBy) := goodIn_app (goodIn_of _ (by decide +kernel)) ggX12_bestSet_X12_gainBy
theorem dX12_bestSet_0 : decode cX12_bestSet 0 = .ok (.iconst 0, 1) := by decide +kernel
theorem dX12_bestSet_1 : decode cX12_bestSet 1 = .ok (.istore_n 1, 1) := by decide +kernel
theorem dX12_bestSet_2 : decode cX12_bestSet 2 = .ok (.iconst 1, 1) := by decide +kernel
theorem dX12_bestSet_3 : decode cX12_bestSet 3 = .ok (.istore_n 2, 1) := by decide +kernel
theorem dX12_bestSet_4 : decode cX12_bestSet 4 = .ok (.iload_n 2, 1) := by decide +kernel
theorem dX12_bestSet_5 : decode cX12_bestSet 5 = .ok (.iconst 1, 1) := by decide +kernel
theorem dX12_bestSet_6 : decode cX12_bestSet 6 = .ok (.aload_n 0, 1) := by decide +kernel
theorem dX12_bestSet_7 : decode cX12_bestSet 7 = .ok (.getfield 100, 3) := by decide +kernel
theorem dX12_bestSet_10 : decode cX12_bestSet 10 = .ok (.ishl, 1) := by decide +kernel
theorem dX12_bestSet_11 : decode cX12_bestSet 11 = .ok (.if_icmp .ge 36, 3) := by decide +kernel
theorem dX12_bestSet_14 : decode cX12_bestSet 14 = .ok (.aload_n 0, 1) := by decide +kernel
theorem dX12_bestSet_15 : decode cX12_bestSet 15 = .ok (.iload_n 2, 1) := by decide +kernel
theorem dX12_bestSet_16 : decode cX12_bestSet 16 = .ok (.invokevirtual 331, 3) := by decide +kernel
theorem dX12_bestSet_19 : decode cX12_bestSet 19 = .ok (.aload_n 0, 1) := by decide +kernel
theorem dX12_bestSet_20 : decode cX12_bestSet 20 = .ok (.getfield 13, 3) := by decide +kernel
theorem dX12_bestSet_23 : decode cX12_bestSet 23 = .ok (.if_icmp .gt 18, 3) := by decide +kernel
theorem dX12_bestSet_26 : decode cX12_bestSet 26 = .ok (.aload_n 0, 1) := by decide +kernel
theorem dX12_bestSet_27 : decode cX12_bestSet 27 = .ok (.iload_n 2, 1) := by decide +kernel
theorem dX12_bestSet_28 : decode cX12_bestSet 28 = .ok (.invokevirtual 334, 3) := by decide +kernel
theorem dX12_bestSet_31 : decode cX12_bestSet 31 = .ok (.aload_n 0, 1) := by decide +kernel
theorem dX12_bestSet_32 : decode cX12_bestSet 32 = .ok (.iload_n 1, 1) := by decide +kernel
theorem dX12_bestSet_33 : decode cX12_bestSet 33 = .ok (.invokevirtual 334, 3) := by decide +kernel
theorem dX12_bestSet_36 : decode cX12_bestSet 36 = .ok (.if_icmp .le 5, 3) := by decide +kernel
theorem dX12_bestSet_39 : decode cX12_bestSet 39 = .ok (.iload_n 2, 1) := by decide +kernel
theorem dX12_bestSet_40 : decode cX12_bestSet 40 = .ok (.istore_n 1, 1) := by decide +kernel
theorem dX12_bestSet_41 : decode cX12_bestSet 41 = .ok (.iinc 2 1, 3) := by decide +kernel
theorem dX12_bestSet_44 : decode cX12_bestSet 44 = .ok (.goto (-40), 3) := by decide +kernel
theorem dX12_bestSet_47 : decode cX12_bestSet 47 = .ok (.iload_n 1, 1) := by decide +kernel
theorem dX12_bestSet_48 : decode cX12_bestSet 48 = .ok (.ireturn, 1) := by decide +kernel
set_option maxRecDepth 20000 in
theorem ggX12_plan_X12_in : GoodIn wsX12_plan wsX12_in := goodIn_r _ [6] (by decide +kernel) (by decide +kernel)
set_option maxRecDepth 20000 in
theorem gX12_plan_X12_in : GoodIn wsX12_plan (wsV RX12 207 RX12 yX12_in wsX12_in) := goodIn_app (goodIn_of _ (by decide +kernel)) ggX12_plan_X12_in
set_option maxRecDepth 20000 in
theorem ggX12_plan_X12_bestSet : GoodIn wsX12_plan wsX12_bestSet := goodIn_r _ [10, 11, 12, 13, 14, 15, 5, 16, 17, 18, 19, 20, 21, 22, 23, 24, 25, 26, 27, 28, 29, 30, 31, 32, 33, 34, 35, 36, 37, 38, 39, 40, 41, 42, 43, 44, 45, 46, 47, 48, 49, 50, 51, 52, 53, 54, 55, 56, 57, 58, 59, 60, 61, 62, 63, 64, 65, 66, 67, 68, 69, 70, 71, 72, 73, 74, 75, 76, 77, 78, 79, 80, 81, 82, 83, 84, 85, 86, 87, 88, 89, 90, 91, 92, 93, 94, 95, 96, 97, 98, 99, 100, 101, 102, 103, 104, 105, 106, 107, 108, 109, 110, 111, 112, 113, 114, 115, 116, 117, 118, 119, 120, 121, 122, 123, 124, 125, 126, 127, 128] (by decide +kernel) (by decide +kernel)
set_option maxRecDepth 20000 in
theorem gX12_plan_X12_bestSet : GoodIn wsX12_plan (wsV RX12 337 RX12 yX12_bestSet wsX12_bestSet) := goodIn_app (goodIn_of _ (by decide +kernel)) ggX12_plan_X12_bestSet
set_option maxRecDepth 20000 in
theorem ggX12_plan_X12_gainBy : GoodIn wsX12_plan wsX12_gainBy := goodIn_r _ [24, 12, 11, 25, 26, 17, 18, 19, 5, 20, 27, 28, 29, 30, 31, 32, 33, 34, 35, 36, 37, 38, 39, 40, 41, 42, 43, 44, 45, 46, 47, 48, 49, 50, 51, 52, 53, 54, 55, 56, 57, 58, 59, 60, 61, 62, 63, 64, 65, 66, 67, 68, 69, 70, 71, 72, 73, 74, 75, 76, 77, 78, 79, 80, 81, 82, 83, 84, 85, 86, 87, 88, 89, 90, 91, 92, 93, 94, 95, 96, 97, 98, 99, 100, 101, 102, 103, 104, 105, 106, 107, 108, 109, 110, 111, 112, 113, 114, 115, 116, 117, 118, 119, 120, 121, 122, 123, 124, 125, 126, 127, 128] (by decide +kernel) (by decide +kernel)
set_option maxRecDepth 20000 in
theorem gX12_plan_X12_gainBy : GoodIn wsX12_plan (wsV RX12 334 RX12 yX12_gainBy wsX12_gainBy) := goodIn_app (goodIn_of _ (by decide +kernel)) ggX12_plan_X12_gainBy
theorem dX12_plan_0 : decode cX12_plan 0 = .ok (.aload_n 0, 1) := by decide +kernel
theorem dX12_plan_1 : decode cX12_plan 1 = .ok (.iload_n 1, 1) := by decide +kernel
theorem dX12_plan_2 : decode cX12_plan 2 = .ok (.iconst 0, 1) := by decide +kernel
theorem dX12_plan_3 : decode cX12_plan 3 = .ok (.iconst 1, 1) := by decide +kernel
theorem dX12_plan_4 : decode cX12_plan 4 = .ok (.invokevirtual 207, 3) := by decide +kernel
theorem dX12_plan_7 : decode cX12_plan 7 = .ok (.ifCond .ne 7, 3) := by decide +kernel
theorem dX12_plan_10 : decode cX12_plan 10 = .ok (.ldc_w 287, 3) := by decide +kernel
theorem dX12_plan_13 : decode cX12_plan 13 = .ok (.ireturn, 1) := by decide +kernel
theorem dX12_plan_14 : decode cX12_plan 14 = .ok (.iload_n 1, 1) := by decide +kernel
theorem dX12_plan_15 : decode cX12_plan 15 = .ok (.ifCond .ne 10, 3) := by decide +kernel
theorem dX12_plan_18 : decode cX12_plan 18 = .ok (.aload_n 0, 1) := by decide +kernel
theorem dX12_plan_19 : decode cX12_plan 19 = .ok (.invokevirtual 337, 3) := by decide +kernel
theorem dX12_plan_22 : decode cX12_plan 22 = .ok (.goto 11, 3) := by decide +kernel
theorem dX12_plan_25 : decode cX12_plan 25 = .ok (.aload_n 0, 1) := by decide +kernel
theorem dX12_plan_26 : decode cX12_plan 26 = .ok (.aload_n 0, 1) := by decide +kernel
theorem dX12_plan_27 : decode cX12_plan 27 = .ok (.invokevirtual 337, 3) := by decide +kernel
theorem dX12_plan_30 : decode cX12_plan 30 = .ok (.invokevirtual 334, 3) := by decide +kernel
theorem dX12_plan_33 : decode cX12_plan 33 = .ok (.ireturn, 1) := by decide +kernel
set_option maxRecDepth 20000 in
theorem ggX12_ends_X12_in : GoodIn wsX12_ends wsX12_in := goodIn_r _ [6] (by decide +kernel) (by decide +kernel)
set_option maxRecDepth 20000 in
theorem gX12_ends_X12_in : GoodIn wsX12_ends (wsV RX12 207 RX12 yX12_in wsX12_in) := goodIn_app (goodIn_of _ (by decide +kernel)) ggX12_ends_X12_in
set_option maxRecDepth 20000 in
theorem ggX12_ends_X12_gainBy : GoodIn wsX12_ends wsX12_gainBy := goodIn_r _ [10, 11, 12, 13, 14, 15, 16, 17, 5, 18, 19, 20, 21, 22, 23, 24, 25, 26, 27, 28, 29, 30, 31, 32, 33, 34, 35, 36, 37, 38, 39, 40, 41, 42, 43, 44, 45, 46, 47, 48, 49, 50, 51, 52, 53, 54, 55, 56, 57, 58, 59, 60, 61, 62, 63, 64, 65, 66, 67, 68, 69, 70, 71, 72, 73, 74, 75, 76, 77, 78, 79, 80, 81, 82, 83, 84, 85, 86, 87, 88, 89, 90, 91, 92, 93, 94, 95, 96, 97, 98, 99, 100, 101, 102, 103, 104, 105, 106, 107, 108, 109, 110, 111, 112, 113, 114, 115, 116, 117, 118, 119, 120] (by decide +kernel) (by decide +kernel)
set_option maxRecDepth 20000 in
theorem gX12_ends_X12_gainBy : GoodIn wsX12_ends (wsV RX12 334 RX12 yX12_gainBy wsX12_gainBy) := goodIn_app (goodIn_of _ (by decide +kernel)) ggX12_ends_X12_gainBy
theorem dX12_ends_0 : decode cX12_ends 0 = .ok (.aload_n 0, 1) := by decide +kernel
theorem dX12_ends_1 : decode cX12_ends 1 = .ok (.iload_n 1, 1) := by decide +kernel
theorem dX12_ends_2 : decode cX12_ends 2 = .ok (.iconst 0, 1) := by decide +kernel
theorem dX12_ends_3 : decode cX12_ends 3 = .ok (.iconst 1, 1) := by decide +kernel
theorem dX12_ends_4 : decode cX12_ends 4 = .ok (.invokevirtual 207, 3) := by decide +kernel
theorem dX12_ends_7 : decode cX12_ends 7 = .ok (.ifCond .ne 7, 3) := by decide +kernel
theorem dX12_ends_10 : decode cX12_ends 10 = .ok (.ldc_w 287, 3) := by decide +kernel
theorem dX12_ends_13 : decode cX12_ends 13 = .ok (.ireturn, 1) := by decide +kernel
theorem dX12_ends_14 : decode cX12_ends 14 = .ok (.iload_n 1, 1) := by decide +kernel
theorem dX12_ends_15 : decode cX12_ends 15 = .ok (.ifCond .ne 11, 3) := by decide +kernel
theorem dX12_ends_18 : decode cX12_ends 18 = .ok (.aload_n 0, 1) := by decide +kernel
theorem dX12_ends_19 : decode cX12_ends 19 = .ok (.iconst 0, 1) := by decide +kernel
theorem dX12_ends_20 : decode cX12_ends 20 = .ok (.invokevirtual 334, 3) := by decide +kernel
theorem dX12_ends_23 : decode cX12_ends 23 = .ok (.goto 10, 3) := by decide +kernel
theorem dX12_ends_26 : decode cX12_ends 26 = .ok (.aload_n 0, 1) := by decide +kernel
theorem dX12_ends_27 : decode cX12_ends 27 = .ok (.sipush 255, 3) := by decide +kernel
theorem dX12_ends_30 : decode cX12_ends 30 = .ok (.invokevirtual 334, 3) := by decide +kernel
theorem dX12_ends_33 : decode cX12_ends 33 = .ok (.ireturn, 1) := by decide +kernel
set_option maxRecDepth 20000 in
theorem ggX12_see_X12_isNeed : GoodIn wsX12_see wsX12_isNeed := goodIn_r _ [9, 10, 11, 12, 13, 8, 14, 15, 16, 17, 18, 19, 20, 21, 22, 23, 24, 25, 26, 27, 28, 29, 30, 31, 32, 33, 34, 35, 36, 37, 38, 39, 40, 41, 42, 43, 44, 45, 46, 47, 48, 49, 50, 51, 52, 53, 54, 55, 56, 57, 58, 59, 60, 61, 62, 63, 64, 65, 66, 67, 68, 69, 70, 71, 72, 73, 74, 75, 76, 77] (by decide +kernel) (by decide +kernel)
set_option maxRecDepth 20000 in
theorem gX12_see_X12_isNeed : GoodIn wsX12_see (wsV RX12 215 RX12 yX12_isNeed wsX12_isNeed) := goodIn_app (goodIn_of _ (by decide +kernel)) ggX12_see_X12_isNeed
set_option maxRecDepth 20000 in
theorem ggX12_see_X12_in : GoodIn wsX12_see wsX12_in := goodIn_r _ [14] (by decide +kernel) (by decide +kernel)
set_option maxRecDepth 20000 in
theorem gX12_see_X12_in : GoodIn wsX12_see (wsV RX12 207 RX12 yX12_in wsX12_in) := goodIn_app (goodIn_of _ (by decide +kernel)) ggX12_see_X12_in
theorem dX12_see_0 : decode cX12_see 0 = .ok (.iload_n 1, 1) := by decide +kernel
theorem dX12_see_1 : decode cX12_see 1 = .ok (.iconst (-1), 1) := by decide +kernel
theorem dX12_see_2 : decode cX12_see 2 = .ok (.if_icmp .ne 10, 3) := by decide +kernel
theorem dX12_see_5 : decode cX12_see 5 = .ok (.aload_n 0, 1) := by decide +kernel
theorem dX12_see_6 : decode cX12_see 6 = .ok (.iconst 0, 1) := by decide +kernel
theorem dX12_see_7 : decode cX12_see 7 = .ok (.putfield 106, 3) := by decide +kernel
theorem dX12_see_10 : decode cX12_see 10 = .ok (.iconst 0, 1) := by decide +kernel
theorem dX12_see_11 : decode cX12_see 11 = .ok (.ireturn, 1) := by decide +kernel
theorem dX12_see_12 : decode cX12_see 12 = .ok (.aload_n 0, 1) := by decide +kernel
theorem dX12_see_13 : decode cX12_see 13 = .ok (.iload_n 1, 1) := by decide +kernel
theorem dX12_see_14 : decode cX12_see 14 = .ok (.invokevirtual 215, 3) := by decide +kernel
theorem dX12_see_17 : decode cX12_see 17 = .ok (.ifCond .ne 5, 3) := by decide +kernel
theorem dX12_see_20 : decode cX12_see 20 = .ok (.iconst (-1), 1) := by decide +kernel
theorem dX12_see_21 : decode cX12_see 21 = .ok (.ireturn, 1) := by decide +kernel
theorem dX12_see_22 : decode cX12_see 22 = .ok (.aload_n 0, 1) := by decide +kernel
theorem dX12_see_23 : decode cX12_see 23 = .ok (.iload_n 2, 1) := by decide +kernel
theorem dX12_see_24 : decode cX12_see 24 = .ok (.iconst 0, 1) := by decide +kernel
theorem dX12_see_25 : decode cX12_see 25 = .ok (.sipush 999, 3) := by decide +kernel
theorem dX12_see_28 : decode cX12_see 28 = .ok (.invokevirtual 207, 3) := by decide +kernel
theorem dX12_see_31 : decode cX12_see 31 = .ok (.ifCond .eq 14, 3) := by decide +kernel
theorem dX12_see_34 : decode cX12_see 34 = .ok (.aload_n 0, 1) := by decide +kernel
theorem dX12_see_35 : decode cX12_see 35 = .ok (.iload_n 3, 1) := by decide +kernel
theorem dX12_see_36 : decode cX12_see 36 = .ok (.iconst 0, 1) := by decide +kernel
theorem dX12_see_37 : decode cX12_see 37 = .ok (.bipush 20, 2) := by decide +kernel
theorem dX12_see_39 : decode cX12_see 39 = .ok (.invokevirtual 207, 3) := by decide +kernel
theorem dX12_see_42 : decode cX12_see 42 = .ok (.ifCond .ne 6, 3) := by decide +kernel
theorem dX12_see_45 : decode cX12_see 45 = .ok (.bipush (-2), 2) := by decide +kernel
theorem dX12_see_47 : decode cX12_see 47 = .ok (.ireturn, 1) := by decide +kernel
theorem dX12_see_48 : decode cX12_see 48 = .ok (.aload_n 0, 1) := by decide +kernel
theorem dX12_see_49 : decode cX12_see 49 = .ok (.getfield 106, 3) := by decide +kernel
theorem dX12_see_52 : decode cX12_see 52 = .ok (.iconst 5, 1) := by decide +kernel
theorem dX12_see_53 : decode cX12_see 53 = .ok (.if_icmp .ne 6, 3) := by decide +kernel
theorem dX12_see_56 : decode cX12_see 56 = .ok (.bipush (-4), 2) := by decide +kernel
theorem dX12_see_58 : decode cX12_see 58 = .ok (.ireturn, 1) := by decide +kernel
theorem dX12_see_59 : decode cX12_see 59 = .ok (.aload_n 0, 1) := by decide +kernel
theorem dX12_see_60 : decode cX12_see 60 = .ok (.getfield 112, 3) := by decide +kernel
theorem dX12_see_63 : decode cX12_see 63 = .ok (.aload_n 0, 1) := by decide +kernel
theorem dX12_see_64 : decode cX12_see 64 = .ok (.getfield 106, 3) := by decide +kernel
theorem dX12_see_67 : decode cX12_see 67 = .ok (.iload_n 1, 1) := by decide +kernel
theorem dX12_see_68 : decode cX12_see 68 = .ok (.iastore, 1) := by decide +kernel
theorem dX12_see_69 : decode cX12_see 69 = .ok (.aload_n 0, 1) := by decide +kernel
theorem dX12_see_70 : decode cX12_see 70 = .ok (.getfield 115, 3) := by decide +kernel
theorem dX12_see_73 : decode cX12_see 73 = .ok (.aload_n 0, 1) := by decide +kernel
theorem dX12_see_74 : decode cX12_see 74 = .ok (.getfield 106, 3) := by decide +kernel
theorem dX12_see_77 : decode cX12_see 77 = .ok (.iload_n 2, 1) := by decide +kernel
theorem dX12_see_78 : decode cX12_see 78 = .ok (.iastore, 1) := by decide +kernel
theorem dX12_see_79 : decode cX12_see 79 = .ok (.aload_n 0, 1) := by decide +kernel
theorem dX12_see_80 : decode cX12_see 80 = .ok (.getfield 118, 3) := by decide +kernel
theorem dX12_see_83 : decode cX12_see 83 = .ok (.aload_n 0, 1) := by decide +kernel
theorem dX12_see_84 : decode cX12_see 84 = .ok (.getfield 106, 3) := by decide +kernel
theorem dX12_see_87 : decode cX12_see 87 = .ok (.iload_n 3, 1) := by decide +kernel
theorem dX12_see_88 : decode cX12_see 88 = .ok (.iastore, 1) := by decide +kernel
theorem dX12_see_89 : decode cX12_see 89 = .ok (.aload_n 0, 1) := by decide +kernel
theorem dX12_see_90 : decode cX12_see 90 = .ok (.dup, 1) := by decide +kernel
theorem dX12_see_91 : decode cX12_see 91 = .ok (.getfield 106, 3) := by decide +kernel
theorem dX12_see_94 : decode cX12_see 94 = .ok (.iconst 1, 1) := by decide +kernel
theorem dX12_see_95 : decode cX12_see 95 = .ok (.iadd, 1) := by decide +kernel
theorem dX12_see_96 : decode cX12_see 96 = .ok (.putfield 106, 3) := by decide +kernel
theorem dX12_see_99 : decode cX12_see 99 = .ok (.aload_n 0, 1) := by decide +kernel
theorem dX12_see_100 : decode cX12_see 100 = .ok (.getfield 106, 3) := by decide +kernel
theorem dX12_see_103 : decode cX12_see 103 = .ok (.ireturn, 1) := by decide +kernel
set_option maxRecDepth 20000 in
theorem ggX12_isSeen_X12_worthOf : GoodIn wsX12_isSeen wsX12_worthOf := goodIn_r _ [10, 11, 12, 13, 14, 15, 16, 9, 17, 18, 19, 20, 21, 22, 23, 24, 25, 26, 27, 28, 29, 30, 31, 32, 33, 34, 35, 36, 37, 38, 39, 40, 41, 42, 43, 44, 45, 46, 47, 48, 49, 50, 51, 52, 53, 54, 55, 56, 57, 58, 59, 60, 61, 62, 63, 64, 65, 66, 67, 68, 69, 70, 71, 72, 73, 74, 75, 76, 77, 78, 79, 80, 81, 82, 83, 84, 85, 86, 87, 88, 89, 90, 91, 92, 93, 94, 95, 96, 97, 98, 99, 100, 101, 102, 103, 104] (by decide +kernel) (by decide +kernel)
set_option maxRecDepth 20000 in
theorem gX12_isSeen_X12_worthOf : GoodIn wsX12_isSeen (wsV RX12 282 RX12 yX12_worthOf wsX12_worthOf) := goodIn_app (goodIn_of _ (by decide +kernel)) ggX12_isSeen_X12_worthOf
theorem dX12_isSeen_0 : decode cX12_isSeen 0 = .ok (.iconst 0, 1) := by decide +kernel
theorem dX12_isSeen_1 : decode cX12_isSeen 1 = .ok (.istore_n 2, 1) := by decide +kernel
theorem dX12_isSeen_2 : decode cX12_isSeen 2 = .ok (.iload_n 2, 1) := by decide +kernel
theorem dX12_isSeen_3 : decode cX12_isSeen 3 = .ok (.aload_n 0, 1) := by decide +kernel
theorem dX12_isSeen_4 : decode cX12_isSeen 4 = .ok (.getfield 106, 3) := by decide +kernel
theorem dX12_isSeen_7 : decode cX12_isSeen 7 = .ok (.if_icmp .ge 42, 3) := by decide +kernel
theorem dX12_isSeen_10 : decode cX12_isSeen 10 = .ok (.aload_n 0, 1) := by decide +kernel
theorem dX12_isSeen_11 : decode cX12_isSeen 11 = .ok (.aload_n 0, 1) := by decide +kernel
theorem dX12_isSeen_12 : decode cX12_isSeen 12 = .ok (.getfield 112, 3) := by decide +kernel
theorem dX12_isSeen_15 : decode cX12_isSeen 15 = .ok (.iload_n 2, 1) := by decide +kernel
theorem dX12_isSeen_16 : decode cX12_isSeen 16 = .ok (.iaload, 1) := by decide +kernel
theorem dX12_isSeen_17 : decode cX12_isSeen 17 = .ok (.aload_n 0, 1) := by decide +kernel
theorem dX12_isSeen_18 : decode cX12_isSeen 18 = .ok (.getfield 19, 3) := by decide +kernel
theorem dX12_isSeen_21 : decode cX12_isSeen 21 = .ok (.aload_n 0, 1) := by decide +kernel
theorem dX12_isSeen_22 : decode cX12_isSeen 22 = .ok (.getfield 118, 3) := by decide +kernel
theorem dX12_isSeen_25 : decode cX12_isSeen 25 = .ok (.iload_n 2, 1) := by decide +kernel
theorem dX12_isSeen_26 : decode cX12_isSeen 26 = .ok (.iaload, 1) := by decide +kernel
theorem dX12_isSeen_27 : decode cX12_isSeen 27 = .ok (.iadd, 1) := by decide +kernel
theorem dX12_isSeen_28 : decode cX12_isSeen 28 = .ok (.iload_n 1, 1) := by decide +kernel
theorem dX12_isSeen_29 : decode cX12_isSeen 29 = .ok (.invokevirtual 282, 3) := by decide +kernel
theorem dX12_isSeen_32 : decode cX12_isSeen 32 = .ok (.aload_n 0, 1) := by decide +kernel
theorem dX12_isSeen_33 : decode cX12_isSeen 33 = .ok (.getfield 115, 3) := by decide +kernel
theorem dX12_isSeen_36 : decode cX12_isSeen 36 = .ok (.iload_n 2, 1) := by decide +kernel
theorem dX12_isSeen_37 : decode cX12_isSeen 37 = .ok (.iaload, 1) := by decide +kernel
theorem dX12_isSeen_38 : decode cX12_isSeen 38 = .ok (.if_icmp .eq 5, 3) := by decide +kernel
theorem dX12_isSeen_41 : decode cX12_isSeen 41 = .ok (.iconst 0, 1) := by decide +kernel
theorem dX12_isSeen_42 : decode cX12_isSeen 42 = .ok (.ireturn, 1) := by decide +kernel
theorem dX12_isSeen_43 : decode cX12_isSeen 43 = .ok (.iinc 2 1, 3) := by decide +kernel
theorem dX12_isSeen_46 : decode cX12_isSeen 46 = .ok (.goto (-44), 3) := by decide +kernel
theorem dX12_isSeen_49 : decode cX12_isSeen 49 = .ok (.iconst 1, 1) := by decide +kernel
theorem dX12_isSeen_50 : decode cX12_isSeen 50 = .ok (.ireturn, 1) := by decide +kernel
set_option maxRecDepth 20000 in
theorem ggX12_can_X12_isNeed : GoodIn wsX12_can wsX12_isNeed := goodIn_r _ [7, 8, 9, 10, 11, 6, 12, 56, 57, 58, 59, 60, 61, 62, 63, 64, 65, 66, 67, 68, 69, 70, 71, 72, 73, 74, 75, 76, 77, 78, 79, 80, 81, 82, 83, 84, 85, 86, 87, 88, 89, 90, 91, 92, 93, 94, 95, 96, 97, 98, 99, 100, 101, 102, 103, 104, 105, 106, 107, 108, 109, 110, 111, 112, 113, 114, 115, 116, 117, 118] (by decide +kernel) (by decide +kernel)
set_option maxRecDepth 20000 in
theorem gX12_can_X12_isNeed : GoodIn wsX12_can (wsV RX12 215 RX12 yX12_isNeed wsX12_isNeed) := goodIn_app (goodIn_of _ (by decide +kernel)) ggX12_can_X12_isNeed
set_option maxRecDepth 20000 in
theorem ggX12_can_X12_in : GoodIn wsX12_can wsX12_in := goodIn_r _ [12] (by decide +kernel) (by decide +kernel)
set_option maxRecDepth 20000 in
theorem gX12_can_X12_in : GoodIn wsX12_can (wsV RX12 207 RX12 yX12_in wsX12_in) := goodIn_app (goodIn_of _ (by decide +kernel)) ggX12_can_X12_in
set_option maxRecDepth 20000 in
theorem ggX12_can_X12_isSeen : GoodIn wsX12_can wsX12_isSeen := goodIn_r _ [16, 17, 18, 19, 20, 21, 22, 23, 24, 6, 25, 26, 1, 27, 28, 29, 30, 31, 32, 33, 34, 35, 36, 37, 38, 39, 40, 41, 42, 43, 44, 45, 46, 47, 48, 49, 50, 51, 52, 53, 54, 55, 56, 57, 58, 59, 60, 61, 62, 63, 64, 65, 66, 67, 68, 69, 70, 71, 72, 73, 74, 75, 76, 77, 78, 79, 80, 81, 82, 83, 84, 85, 86, 87, 88, 89, 90, 91, 92, 93, 94, 95, 96, 97, 98, 99, 100, 101, 102, 103, 104, 105, 106, 107, 108, 109, 110, 111, 112, 113, 114, 115, 116, 117, 118] (by decide +kernel) (by decide +kernel)
set_option maxRecDepth 20000 in
theorem gX12_can_X12_isSeen : GoodIn wsX12_can (wsV RX12 340 RX12 yX12_isSeen wsX12_isSeen) := goodIn_app (goodIn_of _ (by decide +kernel)) ggX12_can_X12_isSeen
theorem dX12_can_0 : decode cX12_can 0 = .ok (.aload_n 0, 1) := by decide +kernel
theorem dX12_can_1 : decode cX12_can 1 = .ok (.iload_n 1, 1) := by decide +kernel
theorem dX12_can_2 : decode cX12_can 2 = .ok (.invokevirtual 215, 3) := by decide +kernel
theorem dX12_can_5 : decode cX12_can 5 = .ok (.ifCond .eq 13, 3) := by decide +kernel
theorem dX12_can_8 : decode cX12_can 8 = .ok (.aload_n 0, 1) := by decide +kernel
theorem dX12_can_9 : decode cX12_can 9 = .ok (.iload_n 2, 1) := by decide +kernel
theorem dX12_can_10 : decode cX12_can 10 = .ok (.iconst 0, 1) := by decide +kernel
theorem dX12_can_11 : decode cX12_can 11 = .ok (.iconst 1, 1) := by decide +kernel
theorem dX12_can_12 : decode cX12_can 12 = .ok (.invokevirtual 207, 3) := by decide +kernel
theorem dX12_can_15 : decode cX12_can 15 = .ok (.ifCond .ne 5, 3) := by decide +kernel
theorem dX12_can_18 : decode cX12_can 18 = .ok (.iconst (-1), 1) := by decide +kernel
theorem dX12_can_19 : decode cX12_can 19 = .ok (.ireturn, 1) := by decide +kernel
theorem dX12_can_20 : decode cX12_can 20 = .ok (.aload_n 0, 1) := by decide +kernel
theorem dX12_can_21 : decode cX12_can 21 = .ok (.getfield 26, 3) := by decide +kernel
theorem dX12_can_24 : decode cX12_can 24 = .ok (.iload_n 1, 1) := by decide +kernel
theorem dX12_can_25 : decode cX12_can 25 = .ok (.iaload, 1) := by decide +kernel
theorem dX12_can_26 : decode cX12_can 26 = .ok (.istore_n 3, 1) := by decide +kernel
theorem dX12_can_27 : decode cX12_can 27 = .ok (.iconst 0, 1) := by decide +kernel
theorem dX12_can_28 : decode cX12_can 28 = .ok (.istore 4, 2) := by decide +kernel
theorem dX12_can_30 : decode cX12_can 30 = .ok (.bipush (-5), 2) := by decide +kernel
theorem dX12_can_32 : decode cX12_can 32 = .ok (.istore 5, 2) := by decide +kernel
theorem dX12_can_34 : decode cX12_can 34 = .ok (.bipush 9, 2) := by decide +kernel
theorem dX12_can_36 : decode cX12_can 36 = .ok (.istore 6, 2) := by decide +kernel
theorem dX12_can_38 : decode cX12_can 38 = .ok (.iload 6, 2) := by decide +kernel
theorem dX12_can_40 : decode cX12_can 40 = .ok (.ifCond .lt 38, 3) := by decide +kernel
theorem dX12_can_43 : decode cX12_can 43 = .ok (.aload_n 0, 1) := by decide +kernel
theorem dX12_can_44 : decode cX12_can 44 = .ok (.getfield 26, 3) := by decide +kernel
theorem dX12_can_47 : decode cX12_can 47 = .ok (.iload_n 1, 1) := by decide +kernel
theorem dX12_can_48 : decode cX12_can 48 = .ok (.iload 6, 2) := by decide +kernel
theorem dX12_can_50 : decode cX12_can 50 = .ok (.iastore, 1) := by decide +kernel
theorem dX12_can_51 : decode cX12_can 51 = .ok (.aload_n 0, 1) := by decide +kernel
theorem dX12_can_52 : decode cX12_can 52 = .ok (.aload_n 0, 1) := by decide +kernel
theorem dX12_can_53 : decode cX12_can 53 = .ok (.getfield 13, 3) := by decide +kernel
theorem dX12_can_56 : decode cX12_can 56 = .ok (.invokevirtual 340, 3) := by decide +kernel
theorem dX12_can_59 : decode cX12_can 59 = .ok (.ifCond .ne 6, 3) := by decide +kernel
theorem dX12_can_62 : decode cX12_can 62 = .ok (.goto 10, 3) := by decide +kernel
theorem dX12_can_65 : decode cX12_can 65 = .ok (.iinc 4 1, 3) := by decide +kernel
theorem dX12_can_68 : decode cX12_can 68 = .ok (.iload 6, 2) := by decide +kernel
theorem dX12_can_70 : decode cX12_can 70 = .ok (.istore 5, 2) := by decide +kernel
theorem dX12_can_72 : decode cX12_can 72 = .ok (.iinc 6 (-1), 3) := by decide +kernel
theorem dX12_can_75 : decode cX12_can 75 = .ok (.goto (-37), 3) := by decide +kernel
theorem dX12_can_78 : decode cX12_can 78 = .ok (.aload_n 0, 1) := by decide +kernel
theorem dX12_can_79 : decode cX12_can 79 = .ok (.getfield 26, 3) := by decide +kernel
theorem dX12_can_82 : decode cX12_can 82 = .ok (.iload_n 1, 1) := by decide +kernel
theorem dX12_can_83 : decode cX12_can 83 = .ok (.iload_n 3, 1) := by decide +kernel
theorem dX12_can_84 : decode cX12_can 84 = .ok (.iastore, 1) := by decide +kernel
theorem dX12_can_85 : decode cX12_can 85 = .ok (.iload_n 2, 1) := by decide +kernel
theorem dX12_can_86 : decode cX12_can 86 = .ok (.ifCond .ne 8, 3) := by decide +kernel
theorem dX12_can_89 : decode cX12_can 89 = .ok (.iload 4, 2) := by decide +kernel
theorem dX12_can_91 : decode cX12_can 91 = .ok (.goto 5, 3) := by decide +kernel
theorem dX12_can_94 : decode cX12_can 94 = .ok (.iload 5, 2) := by decide +kernel
theorem dX12_can_96 : decode cX12_can 96 = .ok (.ireturn, 1) := by decide +kernel
set_option maxRecDepth 20000 in
theorem ggX12_darked_X12_in : GoodIn wsX12_darked wsX12_in := goodIn_r _ [5] (by decide +kernel) (by decide +kernel)
set_option maxRecDepth 20000 in
theorem gX12_darked_X12_in : GoodIn wsX12_darked (wsV RX12 207 RX12 yX12_in wsX12_in) := goodIn_app (goodIn_of _ (by decide +kernel)) ggX12_darked_X12_in
set_option maxRecDepth 20000 in
theorem ggX12_darked_X12_isSeen : GoodIn wsX12_darked wsX12_isSeen := goodIn_r _ [9, 10, 11, 12, 13, 14, 15, 16, 17, 4, 18, 19, 20, 21, 22, 23, 24, 25, 26, 27, 28, 29, 30, 31, 32, 33, 34, 35, 36, 37, 38, 39, 40, 41, 42, 43, 44, 45, 46, 47, 48, 49, 50, 51, 52, 53, 54, 55, 56, 57, 58, 59, 60, 61, 62, 63, 64, 65, 66, 67, 68, 69, 70, 71, 72, 73, 74, 75, 76, 77, 78, 79, 80, 81, 82, 83, 84, 85, 86, 87, 88, 89, 90, 91, 92, 93, 94, 95, 96, 97, 98, 99, 100, 101, 102, 103, 104, 105, 106, 107, 108, 109, 110, 111, 112] (by decide +kernel) (by decide +kernel)
set_option maxRecDepth 20000 in
theorem gX12_darked_X12_isSeen : GoodIn wsX12_darked (wsV RX12 340 RX12 yX12_isSeen wsX12_isSeen) := goodIn_app (goodIn_of _ (by decide +kernel)) ggX12_darked_X12_isSeen
theorem dX12_darked_0 : decode cX12_darked 0 = .ok (.aload_n 0, 1) := by decide +kernel
theorem dX12_darked_1 : decode cX12_darked 1 = .ok (.iload_n 1, 1) := by decide +kernel
theorem dX12_darked_2 : decode cX12_darked 2 = .ok (.iconst 0, 1) := by decide +kernel
theorem dX12_darked_3 : decode cX12_darked 3 = .ok (.iconst 1, 1) := by decide +kernel
theorem dX12_darked_4 : decode cX12_darked 4 = .ok (.invokevirtual 207, 3) := by decide +kernel
theorem dX12_darked_7 : decode cX12_darked 7 = .ok (.ifCond .ne 5, 3) := by decide +kernel
theorem dX12_darked_10 : decode cX12_darked 10 = .ok (.iconst (-1), 1) := by decide +kernel
theorem dX12_darked_11 : decode cX12_darked 11 = .ok (.ireturn, 1) := by decide +kernel
theorem dX12_darked_12 : decode cX12_darked 12 = .ok (.iconst 0, 1) := by decide +kernel
theorem dX12_darked_13 : decode cX12_darked 13 = .ok (.istore_n 2, 1) := by decide +kernel
theorem dX12_darked_14 : decode cX12_darked 14 = .ok (.bipush (-5), 2) := by decide +kernel
theorem dX12_darked_16 : decode cX12_darked 16 = .ok (.istore_n 3, 1) := by decide +kernel
theorem dX12_darked_17 : decode cX12_darked 17 = .ok (.bipush 8, 2) := by decide +kernel
theorem dX12_darked_19 : decode cX12_darked 19 = .ok (.istore 4, 2) := by decide +kernel
theorem dX12_darked_21 : decode cX12_darked 21 = .ok (.iload 4, 2) := by decide +kernel
theorem dX12_darked_23 : decode cX12_darked 23 = .ok (.ifCond .lt 27, 3) := by decide +kernel
theorem dX12_darked_26 : decode cX12_darked 26 = .ok (.aload_n 0, 1) := by decide +kernel
theorem dX12_darked_27 : decode cX12_darked 27 = .ok (.iload 4, 2) := by decide +kernel
theorem dX12_darked_29 : decode cX12_darked 29 = .ok (.invokevirtual 340, 3) := by decide +kernel
theorem dX12_darked_32 : decode cX12_darked 32 = .ok (.ifCond .ne 6, 3) := by decide +kernel
theorem dX12_darked_35 : decode cX12_darked 35 = .ok (.goto 9, 3) := by decide +kernel
theorem dX12_darked_38 : decode cX12_darked 38 = .ok (.iinc 2 1, 3) := by decide +kernel
theorem dX12_darked_41 : decode cX12_darked 41 = .ok (.iload 4, 2) := by decide +kernel
theorem dX12_darked_43 : decode cX12_darked 43 = .ok (.istore_n 3, 1) := by decide +kernel
theorem dX12_darked_44 : decode cX12_darked 44 = .ok (.iinc 4 (-1), 3) := by decide +kernel
theorem dX12_darked_47 : decode cX12_darked 47 = .ok (.goto (-26), 3) := by decide +kernel
theorem dX12_darked_50 : decode cX12_darked 50 = .ok (.iload_n 1, 1) := by decide +kernel
theorem dX12_darked_51 : decode cX12_darked 51 = .ok (.ifCond .ne 7, 3) := by decide +kernel
theorem dX12_darked_54 : decode cX12_darked 54 = .ok (.iload_n 2, 1) := by decide +kernel
theorem dX12_darked_55 : decode cX12_darked 55 = .ok (.goto 4, 3) := by decide +kernel
theorem dX12_darked_58 : decode cX12_darked 58 = .ok (.iload_n 3, 1) := by decide +kernel
theorem dX12_darked_59 : decode cX12_darked 59 = .ok (.ireturn, 1) := by decide +kernel
set_option maxRecDepth 20000 in
theorem ggX12_book_X12_isNeed : GoodIn wsX12_book wsX12_isNeed := goodIn_r _ [8, 9, 10, 11, 12, 7, 13, 14, 15, 16, 17, 18, 19, 20, 21, 22, 23, 24, 25, 26, 27, 28, 29, 30, 31, 32, 33, 34, 35, 36, 37, 38, 39, 40, 41, 42, 43, 44, 45, 46, 47, 48, 49, 50, 51, 52, 53, 54, 55, 56, 57, 58, 59, 60, 61, 62, 63, 64, 65, 66, 67, 68, 69, 70, 71, 72, 73, 74, 75, 76] (by decide +kernel) (by decide +kernel)
set_option maxRecDepth 20000 in
theorem gX12_book_X12_isNeed : GoodIn wsX12_book (wsV RX12 215 RX12 yX12_isNeed wsX12_isNeed) := goodIn_app (goodIn_of _ (by decide +kernel)) ggX12_book_X12_isNeed
set_option maxRecDepth 20000 in
theorem ggX12_book_X12_in : GoodIn wsX12_book wsX12_in := goodIn_r _ [13] (by decide +kernel) (by decide +kernel)
set_option maxRecDepth 20000 in
theorem gX12_book_X12_in : GoodIn wsX12_book (wsV RX12 207 RX12 yX12_in wsX12_in) := goodIn_app (goodIn_of _ (by decide +kernel)) ggX12_book_X12_in
theorem dX12_book_0 : decode cX12_book 0 = .ok (.iload_n 1, 1) := by decide +kernel
theorem dX12_book_1 : decode cX12_book 1 = .ok (.iconst (-1), 1) := by decide +kernel
theorem dX12_book_2 : decode cX12_book 2 = .ok (.if_icmp .ne 10, 3) := by decide +kernel
theorem dX12_book_5 : decode cX12_book 5 = .ok (.aload_n 0, 1) := by decide +kernel
theorem dX12_book_6 : decode cX12_book 6 = .ok (.iconst 0, 1) := by decide +kernel
theorem dX12_book_7 : decode cX12_book 7 = .ok (.putfield 109, 3) := by decide +kernel
theorem dX12_book_10 : decode cX12_book 10 = .ok (.iconst 0, 1) := by decide +kernel
theorem dX12_book_11 : decode cX12_book 11 = .ok (.ireturn, 1) := by decide +kernel
theorem dX12_book_12 : decode cX12_book 12 = .ok (.aload_n 0, 1) := by decide +kernel
theorem dX12_book_13 : decode cX12_book 13 = .ok (.iload_n 1, 1) := by decide +kernel
theorem dX12_book_14 : decode cX12_book 14 = .ok (.invokevirtual 215, 3) := by decide +kernel
theorem dX12_book_17 : decode cX12_book 17 = .ok (.ifCond .ne 5, 3) := by decide +kernel
theorem dX12_book_20 : decode cX12_book 20 = .ok (.iconst (-1), 1) := by decide +kernel
theorem dX12_book_21 : decode cX12_book 21 = .ok (.ireturn, 1) := by decide +kernel
theorem dX12_book_22 : decode cX12_book 22 = .ok (.aload_n 0, 1) := by decide +kernel
theorem dX12_book_23 : decode cX12_book 23 = .ok (.iload_n 2, 1) := by decide +kernel
theorem dX12_book_24 : decode cX12_book 24 = .ok (.iconst 0, 1) := by decide +kernel
theorem dX12_book_25 : decode cX12_book 25 = .ok (.sipush 9999, 3) := by decide +kernel
theorem dX12_book_28 : decode cX12_book 28 = .ok (.invokevirtual 207, 3) := by decide +kernel
theorem dX12_book_31 : decode cX12_book 31 = .ok (.ifCond .ne 6, 3) := by decide +kernel
theorem dX12_book_34 : decode cX12_book 34 = .ok (.bipush (-2), 2) := by decide +kernel
theorem dX12_book_36 : decode cX12_book 36 = .ok (.ireturn, 1) := by decide +kernel
theorem dX12_book_37 : decode cX12_book 37 = .ok (.aload_n 0, 1) := by decide +kernel
theorem dX12_book_38 : decode cX12_book 38 = .ok (.getfield 109, 3) := by decide +kernel
theorem dX12_book_41 : decode cX12_book 41 = .ok (.bipush 8, 2) := by decide +kernel
theorem dX12_book_43 : decode cX12_book 43 = .ok (.if_icmp .ne 6, 3) := by decide +kernel
theorem dX12_book_46 : decode cX12_book 46 = .ok (.bipush (-4), 2) := by decide +kernel
theorem dX12_book_48 : decode cX12_book 48 = .ok (.ireturn, 1) := by decide +kernel
theorem dX12_book_49 : decode cX12_book 49 = .ok (.aload_n 0, 1) := by decide +kernel
theorem dX12_book_50 : decode cX12_book 50 = .ok (.getfield 121, 3) := by decide +kernel
theorem dX12_book_53 : decode cX12_book 53 = .ok (.aload_n 0, 1) := by decide +kernel
theorem dX12_book_54 : decode cX12_book 54 = .ok (.getfield 109, 3) := by decide +kernel
theorem dX12_book_57 : decode cX12_book 57 = .ok (.iload_n 1, 1) := by decide +kernel
theorem dX12_book_58 : decode cX12_book 58 = .ok (.iastore, 1) := by decide +kernel
theorem dX12_book_59 : decode cX12_book 59 = .ok (.aload_n 0, 1) := by decide +kernel
theorem dX12_book_60 : decode cX12_book 60 = .ok (.getfield 124, 3) := by decide +kernel
theorem dX12_book_63 : decode cX12_book 63 = .ok (.aload_n 0, 1) := by decide +kernel
theorem dX12_book_64 : decode cX12_book 64 = .ok (.getfield 109, 3) := by decide +kernel
theorem dX12_book_67 : decode cX12_book 67 = .ok (.iload_n 2, 1) := by decide +kernel
theorem dX12_book_68 : decode cX12_book 68 = .ok (.iastore, 1) := by decide +kernel
theorem dX12_book_69 : decode cX12_book 69 = .ok (.aload_n 0, 1) := by decide +kernel
theorem dX12_book_70 : decode cX12_book 70 = .ok (.dup, 1) := by decide +kernel
theorem dX12_book_71 : decode cX12_book 71 = .ok (.getfield 109, 3) := by decide +kernel
theorem dX12_book_74 : decode cX12_book 74 = .ok (.iconst 1, 1) := by decide +kernel
theorem dX12_book_75 : decode cX12_book 75 = .ok (.iadd, 1) := by decide +kernel
theorem dX12_book_76 : decode cX12_book 76 = .ok (.putfield 109, 3) := by decide +kernel
theorem dX12_book_79 : decode cX12_book 79 = .ok (.aload_n 0, 1) := by decide +kernel
theorem dX12_book_80 : decode cX12_book 80 = .ok (.getfield 109, 3) := by decide +kernel
theorem dX12_book_83 : decode cX12_book 83 = .ok (.ireturn, 1) := by decide +kernel
theorem dX12_looked_0 : decode cX12_looked 0 = .ok (.iconst 0, 1) := by decide +kernel
theorem dX12_looked_1 : decode cX12_looked 1 = .ok (.istore_n 1, 1) := by decide +kernel
theorem dX12_looked_2 : decode cX12_looked 2 = .ok (.iload_n 1, 1) := by decide +kernel
theorem dX12_looked_3 : decode cX12_looked 3 = .ok (.aload_n 0, 1) := by decide +kernel
theorem dX12_looked_4 : decode cX12_looked 4 = .ok (.getfield 109, 3) := by decide +kernel
theorem dX12_looked_7 : decode cX12_looked 7 = .ok (.if_icmp .ge 31, 3) := by decide +kernel
theorem dX12_looked_10 : decode cX12_looked 10 = .ok (.aload_n 0, 1) := by decide +kernel
theorem dX12_looked_11 : decode cX12_looked 11 = .ok (.getfield 29, 3) := by decide +kernel
theorem dX12_looked_14 : decode cX12_looked 14 = .ok (.aload_n 0, 1) := by decide +kernel
theorem dX12_looked_15 : decode cX12_looked 15 = .ok (.getfield 121, 3) := by decide +kernel
theorem dX12_looked_18 : decode cX12_looked 18 = .ok (.iload_n 1, 1) := by decide +kernel
theorem dX12_looked_19 : decode cX12_looked 19 = .ok (.iaload, 1) := by decide +kernel
theorem dX12_looked_20 : decode cX12_looked 20 = .ok (.iaload, 1) := by decide +kernel
theorem dX12_looked_21 : decode cX12_looked 21 = .ok (.aload_n 0, 1) := by decide +kernel
theorem dX12_looked_22 : decode cX12_looked 22 = .ok (.getfield 124, 3) := by decide +kernel
theorem dX12_looked_25 : decode cX12_looked 25 = .ok (.iload_n 1, 1) := by decide +kernel
theorem dX12_looked_26 : decode cX12_looked 26 = .ok (.iaload, 1) := by decide +kernel
theorem dX12_looked_27 : decode cX12_looked 27 = .ok (.if_icmp .eq 5, 3) := by decide +kernel
theorem dX12_looked_30 : decode cX12_looked 30 = .ok (.iload_n 1, 1) := by decide +kernel
theorem dX12_looked_31 : decode cX12_looked 31 = .ok (.ireturn, 1) := by decide +kernel
theorem dX12_looked_32 : decode cX12_looked 32 = .ok (.iinc 1 1, 3) := by decide +kernel
theorem dX12_looked_35 : decode cX12_looked 35 = .ok (.goto (-33), 3) := by decide +kernel
theorem dX12_looked_38 : decode cX12_looked 38 = .ok (.bipush (-5), 2) := by decide +kernel
theorem dX12_looked_40 : decode cX12_looked 40 = .ok (.ireturn, 1) := by decide +kernel
set_option maxRecDepth 20000 in
theorem ggX12_judge_X12_isTape : GoodIn wsX12_judge wsX12_isTape := goodIn_r _ [11, 12, 13, 14, 10, 15] (by decide +kernel) (by decide +kernel)
set_option maxRecDepth 20000 in
theorem gX12_judge_X12_isTape : GoodIn wsX12_judge (wsV RX12 343 RX12 yX12_isTape wsX12_isTape) := goodIn_app (goodIn_of _ (by decide +kernel)) ggX12_judge_X12_isTape
set_option maxRecDepth 20000 in
theorem ggX12_judge_X12_worthOf : GoodIn wsX12_judge wsX12_worthOf := goodIn_r _ [19, 20, 21, 22, 23, 24, 25, 10, 26, 27, 28, 29, 30, 31, 32, 33, 34, 35, 36, 37, 38, 39, 40, 41, 42, 43, 44, 45, 46, 47, 48, 49, 50, 51, 52, 53, 54, 55, 56, 57, 58, 59, 60, 61, 62, 63, 64, 65, 66, 67, 68, 69, 70, 71, 72, 73, 74, 75, 76, 77, 78, 79, 80, 81, 82, 83, 84, 85, 86, 87, 88, 89, 90, 91, 92, 93, 94, 95, 96, 97, 98, 99, 100, 101, 102, 103, 104, 105, 106, 107, 108, 109, 110, 111, 112, 113] (by decide +kernel) (by decide +kernel)
set_option maxRecDepth 20000 in
theorem gX12_judge_X12_worthOf : GoodIn wsX12_judge (wsV RX12 282 RX12 yX12_worthOf wsX12_worthOf) := goodIn_app (goodIn_of _ (by decide +kernel)) ggX12_judge_X12_worthOf
theorem dX12_judge_0 : decode cX12_judge 0 = .ok (.aload_n 0, 1) := by decide +kernel
theorem dX12_judge_1 : decode cX12_judge 1 = .ok (.iload_n 1, 1) := by decide +kernel
theorem dX12_judge_2 : decode cX12_judge 2 = .ok (.invokevirtual 343, 3) := by decide +kernel
theorem dX12_judge_5 : decode cX12_judge 5 = .ok (.ifCond .ne 5, 3) := by decide +kernel
theorem dX12_judge_8 : decode cX12_judge 8 = .ok (.iconst (-1), 1) := by decide +kernel
theorem dX12_judge_9 : decode cX12_judge 9 = .ok (.ireturn, 1) := by decide +kernel
theorem dX12_judge_10 : decode cX12_judge 10 = .ok (.aload_n 0, 1) := by decide +kernel
theorem dX12_judge_11 : decode cX12_judge 11 = .ok (.getfield 191, 3) := by decide +kernel
theorem dX12_judge_14 : decode cX12_judge 14 = .ok (.iload_n 1, 1) := by decide +kernel
theorem dX12_judge_15 : decode cX12_judge 15 = .ok (.iaload, 1) := by decide +kernel
theorem dX12_judge_16 : decode cX12_judge 16 = .ok (.ifCond .lt 16, 3) := by decide +kernel
theorem dX12_judge_19 : decode cX12_judge 19 = .ok (.aload_n 0, 1) := by decide +kernel
theorem dX12_judge_20 : decode cX12_judge 20 = .ok (.getfield 191, 3) := by decide +kernel
theorem dX12_judge_23 : decode cX12_judge 23 = .ok (.iload_n 1, 1) := by decide +kernel
theorem dX12_judge_24 : decode cX12_judge 24 = .ok (.iaload, 1) := by decide +kernel
theorem dX12_judge_25 : decode cX12_judge 25 = .ok (.iconst 2, 1) := by decide +kernel
theorem dX12_judge_26 : decode cX12_judge 26 = .ok (.if_icmp .eq 6, 3) := by decide +kernel
theorem dX12_judge_29 : decode cX12_judge 29 = .ok (.bipush (-12), 2) := by decide +kernel
theorem dX12_judge_31 : decode cX12_judge 31 = .ok (.ireturn, 1) := by decide +kernel
theorem dX12_judge_32 : decode cX12_judge 32 = .ok (.iconst 0, 1) := by decide +kernel
theorem dX12_judge_33 : decode cX12_judge 33 = .ok (.istore_n 3, 1) := by decide +kernel
theorem dX12_judge_34 : decode cX12_judge 34 = .ok (.iload_n 3, 1) := by decide +kernel
theorem dX12_judge_35 : decode cX12_judge 35 = .ok (.aload_n 0, 1) := by decide +kernel
theorem dX12_judge_36 : decode cX12_judge 36 = .ok (.getfield 7, 3) := by decide +kernel
theorem dX12_judge_39 : decode cX12_judge 39 = .ok (.if_icmp .ge 74, 3) := by decide +kernel
theorem dX12_judge_42 : decode cX12_judge 42 = .ok (.aload_n 0, 1) := by decide +kernel
theorem dX12_judge_43 : decode cX12_judge 43 = .ok (.getfield 191, 3) := by decide +kernel
theorem dX12_judge_46 : decode cX12_judge 46 = .ok (.iload_n 1, 1) := by decide +kernel
theorem dX12_judge_47 : decode cX12_judge 47 = .ok (.iaload, 1) := by decide +kernel
theorem dX12_judge_48 : decode cX12_judge 48 = .ok (.ifCond .lt 21, 3) := by decide +kernel
theorem dX12_judge_51 : decode cX12_judge 51 = .ok (.iload_n 2, 1) := by decide +kernel
theorem dX12_judge_52 : decode cX12_judge 52 = .ok (.ifCond .lt 17, 3) := by decide +kernel
theorem dX12_judge_55 : decode cX12_judge 55 = .ok (.iload_n 2, 1) := by decide +kernel
theorem dX12_judge_56 : decode cX12_judge 56 = .ok (.aload_n 0, 1) := by decide +kernel
theorem dX12_judge_57 : decode cX12_judge 57 = .ok (.getfield 194, 3) := by decide +kernel
theorem dX12_judge_60 : decode cX12_judge 60 = .ok (.iload_n 1, 1) := by decide +kernel
theorem dX12_judge_61 : decode cX12_judge 61 = .ok (.iaload, 1) := by decide +kernel
theorem dX12_judge_62 : decode cX12_judge 62 = .ok (.iload_n 3, 1) := by decide +kernel
theorem dX12_judge_63 : decode cX12_judge 63 = .ok (.isub, 1) := by decide +kernel
theorem dX12_judge_64 : decode cX12_judge 64 = .ok (.iconst 1, 1) := by decide +kernel
theorem dX12_judge_65 : decode cX12_judge 65 = .ok (.isub, 1) := by decide +kernel
theorem dX12_judge_66 : decode cX12_judge 66 = .ok (.if_icmp .le 8, 3) := by decide +kernel
theorem dX12_judge_69 : decode cX12_judge 69 = .ok (.bipush 100, 2) := by decide +kernel
theorem dX12_judge_71 : decode cX12_judge 71 = .ok (.iload_n 3, 1) := by decide +kernel
theorem dX12_judge_72 : decode cX12_judge 72 = .ok (.iadd, 1) := by decide +kernel
theorem dX12_judge_73 : decode cX12_judge 73 = .ok (.ireturn, 1) := by decide +kernel
theorem dX12_judge_74 : decode cX12_judge 74 = .ok (.aload_n 0, 1) := by decide +kernel
theorem dX12_judge_75 : decode cX12_judge 75 = .ok (.getfield 197, 3) := by decide +kernel
theorem dX12_judge_78 : decode cX12_judge 78 = .ok (.bipush 60, 2) := by decide +kernel
theorem dX12_judge_80 : decode cX12_judge 80 = .ok (.iload_n 1, 1) := by decide +kernel
theorem dX12_judge_81 : decode cX12_judge 81 = .ok (.imul, 1) := by decide +kernel
theorem dX12_judge_82 : decode cX12_judge 82 = .ok (.iload_n 2, 1) := by decide +kernel
theorem dX12_judge_83 : decode cX12_judge 83 = .ok (.iadd, 1) := by decide +kernel
theorem dX12_judge_84 : decode cX12_judge 84 = .ok (.iload_n 3, 1) := by decide +kernel
theorem dX12_judge_85 : decode cX12_judge 85 = .ok (.iadd, 1) := by decide +kernel
theorem dX12_judge_86 : decode cX12_judge 86 = .ok (.laload, 1) := by decide +kernel
theorem dX12_judge_87 : decode cX12_judge 87 = .ok (.aload_n 0, 1) := by decide +kernel
theorem dX12_judge_88 : decode cX12_judge 88 = .ok (.iload_n 3, 1) := by decide +kernel
theorem dX12_judge_89 : decode cX12_judge 89 = .ok (.aload_n 0, 1) := by decide +kernel
theorem dX12_judge_90 : decode cX12_judge 90 = .ok (.getfield 19, 3) := by decide +kernel
theorem dX12_judge_93 : decode cX12_judge 93 = .ok (.aload_n 0, 1) := by decide +kernel
theorem dX12_judge_94 : decode cX12_judge 94 = .ok (.getfield 13, 3) := by decide +kernel
theorem dX12_judge_97 : decode cX12_judge 97 = .ok (.invokevirtual 282, 3) := by decide +kernel
theorem dX12_judge_100 : decode cX12_judge 100 = .ok (.i2l, 1) := by decide +kernel
theorem dX12_judge_101 : decode cX12_judge 101 = .ok (.lcmp, 1) := by decide +kernel
theorem dX12_judge_102 : decode cX12_judge 102 = .ok (.ifCond .eq 5, 3) := by decide +kernel
theorem dX12_judge_105 : decode cX12_judge 105 = .ok (.iload_n 3, 1) := by decide +kernel
theorem dX12_judge_106 : decode cX12_judge 106 = .ok (.ireturn, 1) := by decide +kernel
theorem dX12_judge_107 : decode cX12_judge 107 = .ok (.iinc 3 1, 3) := by decide +kernel
theorem dX12_judge_110 : decode cX12_judge 110 = .ok (.goto (-76), 3) := by decide +kernel
theorem dX12_judge_113 : decode cX12_judge 113 = .ok (.bipush (-5), 2) := by decide +kernel
theorem dX12_judge_115 : decode cX12_judge 115 = .ok (.ireturn, 1) := by decide +kernel
theorem dX12_image_0 : decode cX12_image 0 = .ok (.aload_n 0, 1) := by decide +kernel
theorem dX12_image_1 : decode cX12_image 1 = .ok (.iconst 1, 1) := by decide +kernel
theorem dX12_image_2 : decode cX12_image 2 = .ok (.putfield 127, 3) := by decide +kernel
theorem dX12_image_5 : decode cX12_image 5 = .ok (.aload_n 0, 1) := by decide +kernel
theorem dX12_image_6 : decode cX12_image 6 = .ok (.aload_n 0, 1) := by decide +kernel
theorem dX12_image_7 : decode cX12_image 7 = .ok (.getfield 38, 3) := by decide +kernel
theorem dX12_image_10 : decode cX12_image 10 = .ok (.putfield 131, 3) := by decide +kernel
theorem dX12_image_13 : decode cX12_image 13 = .ok (.aload_n 0, 1) := by decide +kernel
theorem dX12_image_14 : decode cX12_image 14 = .ok (.aload_n 0, 1) := by decide +kernel
theorem dX12_image_15 : decode cX12_image 15 = .ok (.getfield 7, 3) := by decide +kernel
theorem dX12_image_18 : decode cX12_image 18 = .ok (.putfield 134, 3) := by decide +kernel
theorem dX12_image_21 : decode cX12_image 21 = .ok (.aload_n 0, 1) := by decide +kernel
theorem dX12_image_22 : decode cX12_image 22 = .ok (.aload_n 0, 1) := by decide +kernel
theorem dX12_image_23 : decode cX12_image 23 = .ok (.getfield 13, 3) := by decide +kernel
theorem dX12_image_26 : decode cX12_image 26 = .ok (.putfield 137, 3) := by decide +kernel
theorem dX12_image_29 : decode cX12_image 29 = .ok (.aload_n 0, 1) := by decide +kernel
theorem dX12_image_30 : decode cX12_image 30 = .ok (.aload_n 0, 1) := by decide +kernel
theorem dX12_image_31 : decode cX12_image 31 = .ok (.getfield 16, 3) := by decide +kernel
theorem dX12_image_34 : decode cX12_image 34 = .ok (.putfield 140, 3) := by decide +kernel
theorem dX12_image_37 : decode cX12_image 37 = .ok (.aload_n 0, 1) := by decide +kernel
theorem dX12_image_38 : decode cX12_image 38 = .ok (.aload_n 0, 1) := by decide +kernel
theorem dX12_image_39 : decode cX12_image 39 = .ok (.getfield 19, 3) := by decide +kernel
theorem dX12_image_42 : decode cX12_image 42 = .ok (.putfield 143, 3) := by decide +kernel
theorem dX12_image_45 : decode cX12_image 45 = .ok (.aload_n 0, 1) := by decide +kernel
theorem dX12_image_46 : decode cX12_image 46 = .ok (.aload_n 0, 1) := by decide +kernel
theorem dX12_image_47 : decode cX12_image 47 = .ok (.getfield 100, 3) := by decide +kernel
theorem dX12_image_50 : decode cX12_image 50 = .ok (.putfield 146, 3) := by decide +kernel
theorem dX12_image_53 : decode cX12_image 53 = .ok (.aload_n 0, 1) := by decide +kernel
theorem dX12_image_54 : decode cX12_image 54 = .ok (.aload_n 0, 1) := by decide +kernel
theorem dX12_image_55 : decode cX12_image 55 = .ok (.getfield 106, 3) := by decide +kernel
theorem dX12_image_58 : decode cX12_image 58 = .ok (.putfield 149, 3) := by decide +kernel
theorem dX12_image_61 : decode cX12_image 61 = .ok (.aload_n 0, 1) := by decide +kernel
theorem dX12_image_62 : decode cX12_image 62 = .ok (.aload_n 0, 1) := by decide +kernel
theorem dX12_image_63 : decode cX12_image 63 = .ok (.getfield 109, 3) := by decide +kernel
theorem dX12_image_66 : decode cX12_image 66 = .ok (.putfield 152, 3) := by decide +kernel
theorem dX12_image_69 : decode cX12_image 69 = .ok (.iconst 0, 1) := by decide +kernel
theorem dX12_image_70 : decode cX12_image 70 = .ok (.istore_n 1, 1) := by decide +kernel
theorem dX12_image_71 : decode cX12_image 71 = .ok (.iload_n 1, 1) := by decide +kernel
theorem dX12_image_72 : decode cX12_image 72 = .ok (.bipush 6, 2) := by decide +kernel
theorem dX12_image_74 : decode cX12_image 74 = .ok (.if_icmp .ge 45, 3) := by decide +kernel
theorem dX12_image_77 : decode cX12_image 77 = .ok (.aload_n 0, 1) := by decide +kernel
theorem dX12_image_78 : decode cX12_image 78 = .ok (.getfield 155, 3) := by decide +kernel
theorem dX12_image_81 : decode cX12_image 81 = .ok (.iload_n 1, 1) := by decide +kernel
theorem dX12_image_82 : decode cX12_image 82 = .ok (.aload_n 0, 1) := by decide +kernel
theorem dX12_image_83 : decode cX12_image 83 = .ok (.getfield 22, 3) := by decide +kernel
theorem dX12_image_86 : decode cX12_image 86 = .ok (.iload_n 1, 1) := by decide +kernel
theorem dX12_image_87 : decode cX12_image 87 = .ok (.iaload, 1) := by decide +kernel
theorem dX12_image_88 : decode cX12_image 88 = .ok (.iastore, 1) := by decide +kernel
theorem dX12_image_89 : decode cX12_image 89 = .ok (.aload_n 0, 1) := by decide +kernel
theorem dX12_image_90 : decode cX12_image 90 = .ok (.getfield 158, 3) := by decide +kernel
theorem dX12_image_93 : decode cX12_image 93 = .ok (.iload_n 1, 1) := by decide +kernel
theorem dX12_image_94 : decode cX12_image 94 = .ok (.aload_n 0, 1) := by decide +kernel
theorem dX12_image_95 : decode cX12_image 95 = .ok (.getfield 26, 3) := by decide +kernel
theorem dX12_image_98 : decode cX12_image 98 = .ok (.iload_n 1, 1) := by decide +kernel
theorem dX12_image_99 : decode cX12_image 99 = .ok (.iaload, 1) := by decide +kernel
theorem dX12_image_100 : decode cX12_image 100 = .ok (.iastore, 1) := by decide +kernel
theorem dX12_image_101 : decode cX12_image 101 = .ok (.aload_n 0, 1) := by decide +kernel
theorem dX12_image_102 : decode cX12_image 102 = .ok (.getfield 161, 3) := by decide +kernel
theorem dX12_image_105 : decode cX12_image 105 = .ok (.iload_n 1, 1) := by decide +kernel
theorem dX12_image_106 : decode cX12_image 106 = .ok (.aload_n 0, 1) := by decide +kernel
theorem dX12_image_107 : decode cX12_image 107 = .ok (.getfield 29, 3) := by decide +kernel
theorem dX12_image_110 : decode cX12_image 110 = .ok (.iload_n 1, 1) := by decide +kernel
theorem dX12_image_111 : decode cX12_image 111 = .ok (.iaload, 1) := by decide +kernel
theorem dX12_image_112 : decode cX12_image 112 = .ok (.iastore, 1) := by decide +kernel
theorem dX12_image_113 : decode cX12_image 113 = .ok (.iinc 1 1, 3) := by decide +kernel
theorem dX12_image_116 : decode cX12_image 116 = .ok (.goto (-45), 3) := by decide +kernel
theorem dX12_image_119 : decode cX12_image 119 = .ok (.iconst 0, 1) := by decide +kernel
theorem dX12_image_120 : decode cX12_image 120 = .ok (.istore_n 1, 1) := by decide +kernel
theorem dX12_image_121 : decode cX12_image 121 = .ok (.iload_n 1, 1) := by decide +kernel
theorem dX12_image_122 : decode cX12_image 122 = .ok (.bipush 24, 2) := by decide +kernel
theorem dX12_image_124 : decode cX12_image 124 = .ok (.if_icmp .ge 21, 3) := by decide +kernel
theorem dX12_image_127 : decode cX12_image 127 = .ok (.aload_n 0, 1) := by decide +kernel
theorem dX12_image_128 : decode cX12_image 128 = .ok (.getfield 164, 3) := by decide +kernel
theorem dX12_image_131 : decode cX12_image 131 = .ok (.iload_n 1, 1) := by decide +kernel
theorem dX12_image_132 : decode cX12_image 132 = .ok (.aload_n 0, 1) := by decide +kernel
theorem dX12_image_133 : decode cX12_image 133 = .ok (.getfield 32, 3) := by decide +kernel
theorem dX12_image_136 : decode cX12_image 136 = .ok (.iload_n 1, 1) := by decide +kernel
theorem dX12_image_137 : decode cX12_image 137 = .ok (.iaload, 1) := by decide +kernel
theorem dX12_image_138 : decode cX12_image 138 = .ok (.iastore, 1) := by decide +kernel
theorem dX12_image_139 : decode cX12_image 139 = .ok (.iinc 1 1, 3) := by decide +kernel
theorem dX12_image_142 : decode cX12_image 142 = .ok (.goto (-21), 3) := by decide +kernel
theorem dX12_image_145 : decode cX12_image 145 = .ok (.iconst 0, 1) := by decide +kernel
theorem dX12_image_146 : decode cX12_image 146 = .ok (.istore_n 1, 1) := by decide +kernel
theorem dX12_image_147 : decode cX12_image 147 = .ok (.iload_n 1, 1) := by decide +kernel
theorem dX12_image_148 : decode cX12_image 148 = .ok (.iconst 5, 1) := by decide +kernel
theorem dX12_image_149 : decode cX12_image 149 = .ok (.if_icmp .ge 45, 3) := by decide +kernel
theorem dX12_image_152 : decode cX12_image 152 = .ok (.aload_n 0, 1) := by decide +kernel
theorem dX12_image_153 : decode cX12_image 153 = .ok (.getfield 170, 3) := by decide +kernel
theorem dX12_image_156 : decode cX12_image 156 = .ok (.iload_n 1, 1) := by decide +kernel
theorem dX12_image_157 : decode cX12_image 157 = .ok (.aload_n 0, 1) := by decide +kernel
theorem dX12_image_158 : decode cX12_image 158 = .ok (.getfield 112, 3) := by decide +kernel
theorem dX12_image_161 : decode cX12_image 161 = .ok (.iload_n 1, 1) := by decide +kernel
theorem dX12_image_162 : decode cX12_image 162 = .ok (.iaload, 1) := by decide +kernel
theorem dX12_image_163 : decode cX12_image 163 = .ok (.iastore, 1) := by decide +kernel
theorem dX12_image_164 : decode cX12_image 164 = .ok (.aload_n 0, 1) := by decide +kernel
theorem dX12_image_165 : decode cX12_image 165 = .ok (.getfield 173, 3) := by decide +kernel
theorem dX12_image_168 : decode cX12_image 168 = .ok (.iload_n 1, 1) := by decide +kernel
theorem dX12_image_169 : decode cX12_image 169 = .ok (.aload_n 0, 1) := by decide +kernel
theorem dX12_image_170 : decode cX12_image 170 = .ok (.getfield 115, 3) := by decide +kernel
theorem dX12_image_173 : decode cX12_image 173 = .ok (.iload_n 1, 1) := by decide +kernel
theorem dX12_image_174 : decode cX12_image 174 = .ok (.iaload, 1) := by decide +kernel
theorem dX12_image_175 : decode cX12_image 175 = .ok (.iastore, 1) := by decide +kernel
theorem dX12_image_176 : decode cX12_image 176 = .ok (.aload_n 0, 1) := by decide +kernel
theorem dX12_image_177 : decode cX12_image 177 = .ok (.getfield 176, 3) := by decide +kernel
theorem dX12_image_180 : decode cX12_image 180 = .ok (.iload_n 1, 1) := by decide +kernel
theorem dX12_image_181 : decode cX12_image 181 = .ok (.aload_n 0, 1) := by decide +kernel
theorem dX12_image_182 : decode cX12_image 182 = .ok (.getfield 118, 3) := by decide +kernel
theorem dX12_image_185 : decode cX12_image 185 = .ok (.iload_n 1, 1) := by decide +kernel
theorem dX12_image_186 : decode cX12_image 186 = .ok (.iaload, 1) := by decide +kernel
theorem dX12_image_187 : decode cX12_image 187 = .ok (.iastore, 1) := by decide +kernel
theorem dX12_image_188 : decode cX12_image 188 = .ok (.iinc 1 1, 3) := by decide +kernel
theorem dX12_image_191 : decode cX12_image 191 = .ok (.goto (-44), 3) := by decide +kernel
theorem dX12_image_194 : decode cX12_image 194 = .ok (.iconst 0, 1) := by decide +kernel
theorem dX12_image_195 : decode cX12_image 195 = .ok (.istore_n 1, 1) := by decide +kernel
theorem dX12_image_196 : decode cX12_image 196 = .ok (.iload_n 1, 1) := by decide +kernel
theorem dX12_image_197 : decode cX12_image 197 = .ok (.bipush 8, 2) := by decide +kernel
theorem dX12_image_199 : decode cX12_image 199 = .ok (.if_icmp .ge 45, 3) := by decide +kernel
theorem dX12_image_202 : decode cX12_image 202 = .ok (.aload_n 0, 1) := by decide +kernel
theorem dX12_image_203 : decode cX12_image 203 = .ok (.getfield 167, 3) := by decide +kernel
theorem dX12_image_206 : decode cX12_image 206 = .ok (.iload_n 1, 1) := by decide +kernel
theorem dX12_image_207 : decode cX12_image 207 = .ok (.aload_n 0, 1) := by decide +kernel
theorem dX12_image_208 : decode cX12_image 208 = .ok (.getfield 103, 3) := by decide +kernel
theorem dX12_image_211 : decode cX12_image 211 = .ok (.iload_n 1, 1) := by decide +kernel
theorem dX12_image_212 : decode cX12_image 212 = .ok (.iaload, 1) := by decide +kernel
theorem dX12_image_213 : decode cX12_image 213 = .ok (.iastore, 1) := by decide +kernel
theorem dX12_image_214 : decode cX12_image 214 = .ok (.aload_n 0, 1) := by decide +kernel
theorem dX12_image_215 : decode cX12_image 215 = .ok (.getfield 179, 3) := by decide +kernel
theorem dX12_image_218 : decode cX12_image 218 = .ok (.iload_n 1, 1) := by decide +kernel
theorem dX12_image_219 : decode cX12_image 219 = .ok (.aload_n 0, 1) := by decide +kernel
theorem dX12_image_220 : decode cX12_image 220 = .ok (.getfield 121, 3) := by decide +kernel
theorem dX12_image_223 : decode cX12_image 223 = .ok (.iload_n 1, 1) := by decide +kernel
theorem dX12_image_224 : decode cX12_image 224 = .ok (.iaload, 1) := by decide +kernel
theorem dX12_image_225 : decode cX12_image 225 = .ok (.iastore, 1) := by decide +kernel
theorem dX12_image_226 : decode cX12_image 226 = .ok (.aload_n 0, 1) := by decide +kernel
theorem dX12_image_227 : decode cX12_image 227 = .ok (.getfield 182, 3) := by decide +kernel
theorem dX12_image_230 : decode cX12_image 230 = .ok (.iload_n 1, 1) := by decide +kernel
theorem dX12_image_231 : decode cX12_image 231 = .ok (.aload_n 0, 1) := by decide +kernel
theorem dX12_image_232 : decode cX12_image 232 = .ok (.getfield 124, 3) := by decide +kernel
theorem dX12_image_235 : decode cX12_image 235 = .ok (.iload_n 1, 1) := by decide +kernel
theorem dX12_image_236 : decode cX12_image 236 = .ok (.iaload, 1) := by decide +kernel
theorem dX12_image_237 : decode cX12_image 237 = .ok (.iastore, 1) := by decide +kernel
theorem dX12_image_238 : decode cX12_image 238 = .ok (.iinc 1 1, 3) := by decide +kernel
theorem dX12_image_241 : decode cX12_image 241 = .ok (.goto (-45), 3) := by decide +kernel
theorem dX12_image_244 : decode cX12_image 244 = .ok (.aload_n 0, 1) := by decide +kernel
theorem dX12_image_245 : decode cX12_image 245 = .ok (.getfield 7, 3) := by decide +kernel
theorem dX12_image_248 : decode cX12_image 248 = .ok (.ireturn, 1) := by decide +kernel
theorem dX12_undo_0 : decode cX12_undo 0 = .ok (.aload_n 0, 1) := by decide +kernel
theorem dX12_undo_1 : decode cX12_undo 1 = .ok (.getfield 127, 3) := by decide +kernel
theorem dX12_undo_4 : decode cX12_undo 4 = .ok (.ifCond .ne 6, 3) := by decide +kernel
theorem dX12_undo_7 : decode cX12_undo 7 = .ok (.bipush (-3), 2) := by decide +kernel
theorem dX12_undo_9 : decode cX12_undo 9 = .ok (.ireturn, 1) := by decide +kernel
theorem dX12_undo_10 : decode cX12_undo 10 = .ok (.aload_n 0, 1) := by decide +kernel
theorem dX12_undo_11 : decode cX12_undo 11 = .ok (.aload_n 0, 1) := by decide +kernel
theorem dX12_undo_12 : decode cX12_undo 12 = .ok (.getfield 131, 3) := by decide +kernel
theorem dX12_undo_15 : decode cX12_undo 15 = .ok (.putfield 38, 3) := by decide +kernel
theorem dX12_undo_18 : decode cX12_undo 18 = .ok (.aload_n 0, 1) := by decide +kernel
theorem dX12_undo_19 : decode cX12_undo 19 = .ok (.aload_n 0, 1) := by decide +kernel
theorem dX12_undo_20 : decode cX12_undo 20 = .ok (.getfield 134, 3) := by decide +kernel
theorem dX12_undo_23 : decode cX12_undo 23 = .ok (.putfield 7, 3) := by decide +kernel
theorem dX12_undo_26 : decode cX12_undo 26 = .ok (.aload_n 0, 1) := by decide +kernel
theorem dX12_undo_27 : decode cX12_undo 27 = .ok (.aload_n 0, 1) := by decide +kernel
theorem dX12_undo_28 : decode cX12_undo 28 = .ok (.getfield 137, 3) := by decide +kernel
theorem dX12_undo_31 : decode cX12_undo 31 = .ok (.putfield 13, 3) := by decide +kernel
theorem dX12_undo_34 : decode cX12_undo 34 = .ok (.aload_n 0, 1) := by decide +kernel
theorem dX12_undo_35 : decode cX12_undo 35 = .ok (.aload_n 0, 1) := by decide +kernel
theorem dX12_undo_36 : decode cX12_undo 36 = .ok (.getfield 140, 3) := by decide +kernel
theorem dX12_undo_39 : decode cX12_undo 39 = .ok (.putfield 16, 3) := by decide +kernel
theorem dX12_undo_42 : decode cX12_undo 42 = .ok (.aload_n 0, 1) := by decide +kernel
theorem dX12_undo_43 : decode cX12_undo 43 = .ok (.aload_n 0, 1) := by decide +kernel
theorem dX12_undo_44 : decode cX12_undo 44 = .ok (.getfield 143, 3) := by decide +kernel
theorem dX12_undo_47 : decode cX12_undo 47 = .ok (.putfield 19, 3) := by decide +kernel
theorem dX12_undo_50 : decode cX12_undo 50 = .ok (.aload_n 0, 1) := by decide +kernel
theorem dX12_undo_51 : decode cX12_undo 51 = .ok (.aload_n 0, 1) := by decide +kernel
theorem dX12_undo_52 : decode cX12_undo 52 = .ok (.getfield 146, 3) := by decide +kernel
theorem dX12_undo_55 : decode cX12_undo 55 = .ok (.putfield 100, 3) := by decide +kernel
theorem dX12_undo_58 : decode cX12_undo 58 = .ok (.aload_n 0, 1) := by decide +kernel
theorem dX12_undo_59 : decode cX12_undo 59 = .ok (.aload_n 0, 1) := by decide +kernel
theorem dX12_undo_60 : decode cX12_undo 60 = .ok (.getfield 149, 3) := by decide +kernel
theorem dX12_undo_63 : decode cX12_undo 63 = .ok (.putfield 106, 3) := by decide +kernel
theorem dX12_undo_66 : decode cX12_undo 66 = .ok (.aload_n 0, 1) := by decide +kernel
theorem dX12_undo_67 : decode cX12_undo 67 = .ok (.aload_n 0, 1) := by decide +kernel
theorem dX12_undo_68 : decode cX12_undo 68 = .ok (.getfield 152, 3) := by decide +kernel
theorem dX12_undo_71 : decode cX12_undo 71 = .ok (.putfield 109, 3) := by decide +kernel
theorem dX12_undo_74 : decode cX12_undo 74 = .ok (.iconst 0, 1) := by decide +kernel
theorem dX12_undo_75 : decode cX12_undo 75 = .ok (.istore_n 1, 1) := by decide +kernel
theorem dX12_undo_76 : decode cX12_undo 76 = .ok (.iload_n 1, 1) := by decide +kernel
theorem dX12_undo_77 : decode cX12_undo 77 = .ok (.bipush 6, 2) := by decide +kernel
theorem dX12_undo_79 : decode cX12_undo 79 = .ok (.if_icmp .ge 45, 3) := by decide +kernel
theorem dX12_undo_82 : decode cX12_undo 82 = .ok (.aload_n 0, 1) := by decide +kernel
theorem dX12_undo_83 : decode cX12_undo 83 = .ok (.getfield 22, 3) := by decide +kernel
theorem dX12_undo_86 : decode cX12_undo 86 = .ok (.iload_n 1, 1) := by decide +kernel
theorem dX12_undo_87 : decode cX12_undo 87 = .ok (.aload_n 0, 1) := by decide +kernel
theorem dX12_undo_88 : decode cX12_undo 88 = .ok (.getfield 155, 3) := by decide +kernel
theorem dX12_undo_91 : decode cX12_undo 91 = .ok (.iload_n 1, 1) := by decide +kernel
theorem dX12_undo_92 : decode cX12_undo 92 = .ok (.iaload, 1) := by decide +kernel
theorem dX12_undo_93 : decode cX12_undo 93 = .ok (.iastore, 1) := by decide +kernel
theorem dX12_undo_94 : decode cX12_undo 94 = .ok (.aload_n 0, 1) := by decide +kernel
theorem dX12_undo_95 : decode cX12_undo 95 = .ok (.getfield 26, 3) := by decide +kernel
theorem dX12_undo_98 : decode cX12_undo 98 = .ok (.iload_n 1, 1) := by decide +kernel
theorem dX12_undo_99 : decode cX12_undo 99 = .ok (.aload_n 0, 1) := by decide +kernel
theorem dX12_undo_100 : decode cX12_undo 100 = .ok (.getfield 158, 3) := by decide +kernel
theorem dX12_undo_103 : decode cX12_undo 103 = .ok (.iload_n 1, 1) := by decide +kernel
theorem dX12_undo_104 : decode cX12_undo 104 = .ok (.iaload, 1) := by decide +kernel
theorem dX12_undo_105 : decode cX12_undo 105 = .ok (.iastore, 1) := by decide +kernel
theorem dX12_undo_106 : decode cX12_undo 106 = .ok (.aload_n 0, 1) := by decide +kernel
theorem dX12_undo_107 : decode cX12_undo 107 = .ok (.getfield 29, 3) := by decide +kernel
theorem dX12_undo_110 : decode cX12_undo 110 = .ok (.iload_n 1, 1) := by decide +kernel
theorem dX12_undo_111 : decode cX12_undo 111 = .ok (.aload_n 0, 1) := by decide +kernel
theorem dX12_undo_112 : decode cX12_undo 112 = .ok (.getfield 161, 3) := by decide +kernel
theorem dX12_undo_115 : decode cX12_undo 115 = .ok (.iload_n 1, 1) := by decide +kernel
theorem dX12_undo_116 : decode cX12_undo 116 = .ok (.iaload, 1) := by decide +kernel
theorem dX12_undo_117 : decode cX12_undo 117 = .ok (.iastore, 1) := by decide +kernel
theorem dX12_undo_118 : decode cX12_undo 118 = .ok (.iinc 1 1, 3) := by decide +kernel
theorem dX12_undo_121 : decode cX12_undo 121 = .ok (.goto (-45), 3) := by decide +kernel
theorem dX12_undo_124 : decode cX12_undo 124 = .ok (.iconst 0, 1) := by decide +kernel
theorem dX12_undo_125 : decode cX12_undo 125 = .ok (.istore_n 1, 1) := by decide +kernel
theorem dX12_undo_126 : decode cX12_undo 126 = .ok (.iload_n 1, 1) := by decide +kernel
theorem dX12_undo_127 : decode cX12_undo 127 = .ok (.bipush 24, 2) := by decide +kernel
theorem dX12_undo_129 : decode cX12_undo 129 = .ok (.if_icmp .ge 21, 3) := by decide +kernel
theorem dX12_undo_132 : decode cX12_undo 132 = .ok (.aload_n 0, 1) := by decide +kernel
theorem dX12_undo_133 : decode cX12_undo 133 = .ok (.getfield 32, 3) := by decide +kernel
theorem dX12_undo_136 : decode cX12_undo 136 = .ok (.iload_n 1, 1) := by decide +kernel
theorem dX12_undo_137 : decode cX12_undo 137 = .ok (.aload_n 0, 1) := by decide +kernel
theorem dX12_undo_138 : decode cX12_undo 138 = .ok (.getfield 164, 3) := by decide +kernel
theorem dX12_undo_141 : decode cX12_undo 141 = .ok (.iload_n 1, 1) := by decide +kernel
theorem dX12_undo_142 : decode cX12_undo 142 = .ok (.iaload, 1) := by decide +kernel
theorem dX12_undo_143 : decode cX12_undo 143 = .ok (.iastore, 1) := by decide +kernel
theorem dX12_undo_144 : decode cX12_undo 144 = .ok (.iinc 1 1, 3) := by decide +kernel
theorem dX12_undo_147 : decode cX12_undo 147 = .ok (.goto (-21), 3) := by decide +kernel
theorem dX12_undo_150 : decode cX12_undo 150 = .ok (.iconst 0, 1) := by decide +kernel
theorem dX12_undo_151 : decode cX12_undo 151 = .ok (.istore_n 1, 1) := by decide +kernel
theorem dX12_undo_152 : decode cX12_undo 152 = .ok (.iload_n 1, 1) := by decide +kernel
theorem dX12_undo_153 : decode cX12_undo 153 = .ok (.iconst 5, 1) := by decide +kernel
theorem dX12_undo_154 : decode cX12_undo 154 = .ok (.if_icmp .ge 45, 3) := by decide +kernel
theorem dX12_undo_157 : decode cX12_undo 157 = .ok (.aload_n 0, 1) := by decide +kernel
theorem dX12_undo_158 : decode cX12_undo 158 = .ok (.getfield 112, 3) := by decide +kernel
theorem dX12_undo_161 : decode cX12_undo 161 = .ok (.iload_n 1, 1) := by decide +kernel
theorem dX12_undo_162 : decode cX12_undo 162 = .ok (.aload_n 0, 1) := by decide +kernel
theorem dX12_undo_163 : decode cX12_undo 163 = .ok (.getfield 170, 3) := by decide +kernel
theorem dX12_undo_166 : decode cX12_undo 166 = .ok (.iload_n 1, 1) := by decide +kernel
theorem dX12_undo_167 : decode cX12_undo 167 = .ok (.iaload, 1) := by decide +kernel
theorem dX12_undo_168 : decode cX12_undo 168 = .ok (.iastore, 1) := by decide +kernel
theorem dX12_undo_169 : decode cX12_undo 169 = .ok (.aload_n 0, 1) := by decide +kernel
theorem dX12_undo_170 : decode cX12_undo 170 = .ok (.getfield 115, 3) := by decide +kernel
theorem dX12_undo_173 : decode cX12_undo 173 = .ok (.iload_n 1, 1) := by decide +kernel
theorem dX12_undo_174 : decode cX12_undo 174 = .ok (.aload_n 0, 1) := by decide +kernel
theorem dX12_undo_175 : decode cX12_undo 175 = .ok (.getfield 173, 3) := by decide +kernel
theorem dX12_undo_178 : decode cX12_undo 178 = .ok (.iload_n 1, 1) := by decide +kernel
theorem dX12_undo_179 : decode cX12_undo 179 = .ok (.iaload, 1) := by decide +kernel
theorem dX12_undo_180 : decode cX12_undo 180 = .ok (.iastore, 1) := by decide +kernel
theorem dX12_undo_181 : decode cX12_undo 181 = .ok (.aload_n 0, 1) := by decide +kernel
theorem dX12_undo_182 : decode cX12_undo 182 = .ok (.getfield 118, 3) := by decide +kernel
theorem dX12_undo_185 : decode cX12_undo 185 = .ok (.iload_n 1, 1) := by decide +kernel
theorem dX12_undo_186 : decode cX12_undo 186 = .ok (.aload_n 0, 1) := by decide +kernel
theorem dX12_undo_187 : decode cX12_undo 187 = .ok (.getfield 176, 3) := by decide +kernel
theorem dX12_undo_190 : decode cX12_undo 190 = .ok (.iload_n 1, 1) := by decide +kernel
theorem dX12_undo_191 : decode cX12_undo 191 = .ok (.iaload, 1) := by decide +kernel
theorem dX12_undo_192 : decode cX12_undo 192 = .ok (.iastore, 1) := by decide +kernel
theorem dX12_undo_193 : decode cX12_undo 193 = .ok (.iinc 1 1, 3) := by decide +kernel
theorem dX12_undo_196 : decode cX12_undo 196 = .ok (.goto (-44), 3) := by decide +kernel
theorem dX12_undo_199 : decode cX12_undo 199 = .ok (.iconst 0, 1) := by decide +kernel
theorem dX12_undo_200 : decode cX12_undo 200 = .ok (.istore_n 1, 1) := by decide +kernel
theorem dX12_undo_201 : decode cX12_undo 201 = .ok (.iload_n 1, 1) := by decide +kernel
theorem dX12_undo_202 : decode cX12_undo 202 = .ok (.bipush 8, 2) := by decide +kernel
theorem dX12_undo_204 : decode cX12_undo 204 = .ok (.if_icmp .ge 45, 3) := by decide +kernel
theorem dX12_undo_207 : decode cX12_undo 207 = .ok (.aload_n 0, 1) := by decide +kernel
theorem dX12_undo_208 : decode cX12_undo 208 = .ok (.getfield 103, 3) := by decide +kernel
theorem dX12_undo_211 : decode cX12_undo 211 = .ok (.iload_n 1, 1) := by decide +kernel
theorem dX12_undo_212 : decode cX12_undo 212 = .ok (.aload_n 0, 1) := by decide +kernel
theorem dX12_undo_213 : decode cX12_undo 213 = .ok (.getfield 167, 3) := by decide +kernel
theorem dX12_undo_216 : decode cX12_undo 216 = .ok (.iload_n 1, 1) := by decide +kernel
theorem dX12_undo_217 : decode cX12_undo 217 = .ok (.iaload, 1) := by decide +kernel
theorem dX12_undo_218 : decode cX12_undo 218 = .ok (.iastore, 1) := by decide +kernel
theorem dX12_undo_219 : decode cX12_undo 219 = .ok (.aload_n 0, 1) := by decide +kernel
theorem dX12_undo_220 : decode cX12_undo 220 = .ok (.getfield 121, 3) := by decide +kernel
theorem dX12_undo_223 : decode cX12_undo 223 = .ok (.iload_n 1, 1) := by decide +kernel
theorem dX12_undo_224 : decode cX12_undo 224 = .ok (.aload_n 0, 1) := by decide +kernel
theorem dX12_undo_225 : decode cX12_undo 225 = .ok (.getfield 179, 3) := by decide +kernel
theorem dX12_undo_228 : decode cX12_undo 228 = .ok (.iload_n 1, 1) := by decide +kernel
theorem dX12_undo_229 : decode cX12_undo 229 = .ok (.iaload, 1) := by decide +kernel
theorem dX12_undo_230 : decode cX12_undo 230 = .ok (.iastore, 1) := by decide +kernel
theorem dX12_undo_231 : decode cX12_undo 231 = .ok (.aload_n 0, 1) := by decide +kernel
theorem dX12_undo_232 : decode cX12_undo 232 = .ok (.getfield 124, 3) := by decide +kernel
theorem dX12_undo_235 : decode cX12_undo 235 = .ok (.iload_n 1, 1) := by decide +kernel
theorem dX12_undo_236 : decode cX12_undo 236 = .ok (.aload_n 0, 1) := by decide +kernel
theorem dX12_undo_237 : decode cX12_undo 237 = .ok (.getfield 182, 3) := by decide +kernel
theorem dX12_undo_240 : decode cX12_undo 240 = .ok (.iload_n 1, 1) := by decide +kernel
theorem dX12_undo_241 : decode cX12_undo 241 = .ok (.iaload, 1) := by decide +kernel
theorem dX12_undo_242 : decode cX12_undo 242 = .ok (.iastore, 1) := by decide +kernel
theorem dX12_undo_243 : decode cX12_undo 243 = .ok (.iinc 1 1, 3) := by decide +kernel
theorem dX12_undo_246 : decode cX12_undo 246 = .ok (.goto (-45), 3) := by decide +kernel
theorem dX12_undo_249 : decode cX12_undo 249 = .ok (.aload_n 0, 1) := by decide +kernel
theorem dX12_undo_250 : decode cX12_undo 250 = .ok (.getfield 7, 3) := by decide +kernel
theorem dX12_undo_253 : decode cX12_undo 253 = .ok (.ireturn, 1) := by decide +kernel
theorem dX12_body_0 : decode cX12_body 0 = .ok (.aload_n 0, 1) := by decide +kernel
theorem dX12_body_1 : decode cX12_body 1 = .ok (.getfield 185, 3) := by decide +kernel
theorem dX12_body_4 : decode cX12_body 4 = .ok (.bipush 20, 2) := by decide +kernel
theorem dX12_body_6 : decode cX12_body 6 = .ok (.if_icmp .ge 13, 3) := by decide +kernel
theorem dX12_body_9 : decode cX12_body 9 = .ok (.aload_n 0, 1) := by decide +kernel
theorem dX12_body_10 : decode cX12_body 10 = .ok (.getfield 188, 3) := by decide +kernel
theorem dX12_body_13 : decode cX12_body 13 = .ok (.aload_n 0, 1) := by decide +kernel
theorem dX12_body_14 : decode cX12_body 14 = .ok (.getfield 185, 3) := by decide +kernel
theorem dX12_body_17 : decode cX12_body 17 = .ok (.iload_n 1, 1) := by decide +kernel
theorem dX12_body_18 : decode cX12_body 18 = .ok (.iastore, 1) := by decide +kernel
theorem dX12_body_19 : decode cX12_body 19 = .ok (.aload_n 0, 1) := by decide +kernel
theorem dX12_body_20 : decode cX12_body 20 = .ok (.dup, 1) := by decide +kernel
theorem dX12_body_21 : decode cX12_body 21 = .ok (.getfield 185, 3) := by decide +kernel
theorem dX12_body_24 : decode cX12_body 24 = .ok (.iconst 1, 1) := by decide +kernel
theorem dX12_body_25 : decode cX12_body 25 = .ok (.iadd, 1) := by decide +kernel
theorem dX12_body_26 : decode cX12_body 26 = .ok (.putfield 185, 3) := by decide +kernel
theorem dX12_body_29 : decode cX12_body 29 = .ok (.return_, 1) := by decide +kernel
set_option maxRecDepth 20000 in
theorem ggX12_needDarkens_X12_body : GoodIn wsX12_needDarkens wsX12_body := goodIn_r _ [5, 6, 7, 8, 9, 10, 11, 12, 13, 14, 15, 16, 17, 18, 19, 20, 21, 22, 23, 24, 25, 26, 27, 28, 29, 30, 31, 32, 33, 34, 35, 36, 37, 38, 39, 40, 41, 42, 43, 44, 45, 46, 47, 48, 49, 50, 51, 52, 53, 54, 55, 56, 57, 58, 59, 60, 61, 62, 63, 64, 65, 66, 67, 68, 69, 70] (by decide +kernel) (by decide +kernel)
set_option maxRecDepth 20000 in
theorem gX12_needDarkens_X12_body : GoodIn wsX12_needDarkens (wsV RX12 346 RX12 yX12_body wsX12_body) := goodIn_app (goodIn_of _ (by decide +kernel)) ggX12_needDarkens_X12_body
theorem dX12_needDarkens_0 : decode cX12_needDarkens 0 = .ok (.aload_n 0, 1) := by decide +kernel
theorem dX12_needDarkens_1 : decode cX12_needDarkens 1 = .ok (.bipush 10, 2) := by decide +kernel
theorem dX12_needDarkens_3 : decode cX12_needDarkens 3 = .ok (.invokevirtual 346, 3) := by decide +kernel
theorem dX12_needDarkens_6 : decode cX12_needDarkens 6 = .ok (.iload_n 2, 1) := by decide +kernel
theorem dX12_needDarkens_7 : decode cX12_needDarkens 7 = .ok (.iload_n 1, 1) := by decide +kernel
theorem dX12_needDarkens_8 : decode cX12_needDarkens 8 = .ok (.iadd, 1) := by decide +kernel
theorem dX12_needDarkens_9 : decode cX12_needDarkens 9 = .ok (.ireturn, 1) := by decide +kernel
set_option maxRecDepth 20000 in
theorem ggX12_darkensAct_X12_body : GoodIn wsX12_darkensAct wsX12_body := goodIn_r _ [7, 8, 9, 14, 15, 16, 17, 18, 19, 20, 21, 22, 23, 24, 25, 26, 27, 28, 29, 30, 31, 32, 33, 34, 35, 36, 37, 38, 39, 40, 41, 42, 43, 44, 45, 46, 47, 48, 49, 50, 51, 52, 53, 54, 55, 56, 57, 58, 59, 60, 61, 62, 63, 64, 65, 66, 67, 68, 69, 70, 71, 72, 73, 74, 75, 76] (by decide +kernel) (by decide +kernel)
set_option maxRecDepth 20000 in
theorem gX12_darkensAct_X12_body : GoodIn wsX12_darkensAct (wsV RX12 346 RX12 yX12_body wsX12_body) := goodIn_app (goodIn_of _ (by decide +kernel)) ggX12_darkensAct_X12_body
set_option maxRecDepth 20000 in
theorem ggX12_darkensAct_X12_needDarkens : GoodIn wsX12_darkensAct wsX12_needDarkens := goodIn_r _ [13, 3, 4, 5, 6, 7, 8, 9, 14, 15, 16, 17, 18, 19, 20, 21, 22, 23, 24, 25, 26, 27, 28, 29, 30, 31, 32, 33, 34, 35, 36, 37, 38, 39, 40, 41, 42, 43, 44, 45, 46, 47, 48, 49, 50, 51, 52, 53, 54, 55, 56, 57, 58, 59, 60, 61, 62, 63, 64, 65, 66, 67, 68, 69, 70, 71, 72, 73, 74, 75, 76] (by decide +kernel) (by decide +kernel)
set_option maxRecDepth 20000 in
theorem gX12_darkensAct_X12_needDarkens : GoodIn wsX12_darkensAct (wsV RX12 349 RX12 yX12_needDarkens wsX12_needDarkens) := goodIn_app (goodIn_of _ (by decide +kernel)) ggX12_darkensAct_X12_needDarkens
theorem dX12_darkensAct_0 : decode cX12_darkensAct 0 = .ok (.aload_n 0, 1) := by decide +kernel
theorem dX12_darkensAct_1 : decode cX12_darkensAct 1 = .ok (.getfield 22, 3) := by decide +kernel
theorem dX12_darkensAct_4 : decode cX12_darkensAct 4 = .ok (.iload_n 1, 1) := by decide +kernel
theorem dX12_darkensAct_5 : decode cX12_darkensAct 5 = .ok (.iaload, 1) := by decide +kernel
theorem dX12_darkensAct_6 : decode cX12_darkensAct 6 = .ok (.tableswitch 83 2 6 #[34, 83, 49, 34, 63], 34) := by decide +kernel
theorem dX12_darkensAct_40 : decode cX12_darkensAct 40 = .ok (.aload_n 0, 1) := by decide +kernel
theorem dX12_darkensAct_41 : decode cX12_darkensAct 41 = .ok (.bipush 30, 2) := by decide +kernel
theorem dX12_darkensAct_43 : decode cX12_darkensAct 43 = .ok (.invokevirtual 346, 3) := by decide +kernel
theorem dX12_darkensAct_46 : decode cX12_darkensAct 46 = .ok (.aload_n 0, 1) := by decide +kernel
theorem dX12_darkensAct_47 : decode cX12_darkensAct 47 = .ok (.iload_n 1, 1) := by decide +kernel
theorem dX12_darkensAct_48 : decode cX12_darkensAct 48 = .ok (.iload_n 2, 1) := by decide +kernel
theorem dX12_darkensAct_49 : decode cX12_darkensAct 49 = .ok (.iconst 3, 1) := by decide +kernel
theorem dX12_darkensAct_50 : decode cX12_darkensAct 50 = .ok (.imul, 1) := by decide +kernel
theorem dX12_darkensAct_51 : decode cX12_darkensAct 51 = .ok (.invokevirtual 349, 3) := by decide +kernel
theorem dX12_darkensAct_54 : decode cX12_darkensAct 54 = .ok (.ireturn, 1) := by decide +kernel
theorem dX12_darkensAct_55 : decode cX12_darkensAct 55 = .ok (.aload_n 0, 1) := by decide +kernel
theorem dX12_darkensAct_56 : decode cX12_darkensAct 56 = .ok (.bipush 50, 2) := by decide +kernel
theorem dX12_darkensAct_58 : decode cX12_darkensAct 58 = .ok (.invokevirtual 346, 3) := by decide +kernel
theorem dX12_darkensAct_61 : decode cX12_darkensAct 61 = .ok (.aload_n 0, 1) := by decide +kernel
theorem dX12_darkensAct_62 : decode cX12_darkensAct 62 = .ok (.iload_n 1, 1) := by decide +kernel
theorem dX12_darkensAct_63 : decode cX12_darkensAct 63 = .ok (.iload_n 2, 1) := by decide +kernel
theorem dX12_darkensAct_64 : decode cX12_darkensAct 64 = .ok (.invokevirtual 349, 3) := by decide +kernel
theorem dX12_darkensAct_67 : decode cX12_darkensAct 67 = .ok (.ineg, 1) := by decide +kernel
theorem dX12_darkensAct_68 : decode cX12_darkensAct 68 = .ok (.ireturn, 1) := by decide +kernel
theorem dX12_darkensAct_69 : decode cX12_darkensAct 69 = .ok (.aload_n 0, 1) := by decide +kernel
theorem dX12_darkensAct_70 : decode cX12_darkensAct 70 = .ok (.bipush 71, 2) := by decide +kernel
theorem dX12_darkensAct_72 : decode cX12_darkensAct 72 = .ok (.invokevirtual 346, 3) := by decide +kernel
theorem dX12_darkensAct_75 : decode cX12_darkensAct 75 = .ok (.aload_n 0, 1) := by decide +kernel
theorem dX12_darkensAct_76 : decode cX12_darkensAct 76 = .ok (.iload_n 1, 1) := by decide +kernel
theorem dX12_darkensAct_77 : decode cX12_darkensAct 77 = .ok (.iload_n 2, 1) := by decide +kernel
theorem dX12_darkensAct_78 : decode cX12_darkensAct 78 = .ok (.invokevirtual 349, 3) := by decide +kernel
theorem dX12_darkensAct_81 : decode cX12_darkensAct 81 = .ok (.aload_n 0, 1) := by decide +kernel
theorem dX12_darkensAct_82 : decode cX12_darkensAct 82 = .ok (.getfield 26, 3) := by decide +kernel
theorem dX12_darkensAct_85 : decode cX12_darkensAct 85 = .ok (.iload_n 1, 1) := by decide +kernel
theorem dX12_darkensAct_86 : decode cX12_darkensAct 86 = .ok (.iaload, 1) := by decide +kernel
theorem dX12_darkensAct_87 : decode cX12_darkensAct 87 = .ok (.ixor, 1) := by decide +kernel
theorem dX12_darkensAct_88 : decode cX12_darkensAct 88 = .ok (.ireturn, 1) := by decide +kernel
theorem dX12_darkensAct_89 : decode cX12_darkensAct 89 = .ok (.aload_n 0, 1) := by decide +kernel
theorem dX12_darkensAct_90 : decode cX12_darkensAct 90 = .ok (.iload_n 1, 1) := by decide +kernel
theorem dX12_darkensAct_91 : decode cX12_darkensAct 91 = .ok (.iload_n 2, 1) := by decide +kernel
theorem dX12_darkensAct_92 : decode cX12_darkensAct 92 = .ok (.invokevirtual 349, 3) := by decide +kernel
theorem dX12_darkensAct_95 : decode cX12_darkensAct 95 = .ok (.ireturn, 1) := by decide +kernel
set_option maxRecDepth 20000 in
theorem ggX12_needPleads_X12_body : GoodIn wsX12_needPleads wsX12_body := goodIn_r _ [6, 7, 8, 18, 19, 20, 21, 22, 23, 24, 25, 26, 27, 28, 29, 30, 31, 32, 33, 34, 35, 36, 37, 38, 39, 40, 41, 42, 43, 44, 45, 46, 47, 48, 49, 50, 51, 52, 53, 54, 55, 56, 57, 58, 59, 60, 61, 62, 63, 64, 65, 66, 67, 68, 69, 70, 71, 72, 73, 74, 75, 76, 77, 78, 79, 80] (by decide +kernel) (by decide +kernel)
set_option maxRecDepth 20000 in
theorem gX12_needPleads_X12_body : GoodIn wsX12_needPleads (wsV RX12 346 RX12 yX12_body wsX12_body) := goodIn_app (goodIn_of _ (by decide +kernel)) ggX12_needPleads_X12_body
set_option maxRecDepth 20000 in
theorem ggX12_needPleads_X12_darkensAct : GoodIn wsX12_needPleads wsX12_darkensAct := goodIn_r _ [12, 13, 1, 2, 3, 4, 5, 6, 7, 8, 14, 15, 16, 17, 18, 19, 20, 21, 22, 23, 24, 25, 26, 27, 28, 29, 30, 31, 32, 33, 34, 35, 36, 37, 38, 39, 40, 41, 42, 43, 44, 45, 46, 47, 48, 49, 50, 51, 52, 53, 54, 55, 56, 57, 58, 59, 60, 61, 62, 63, 64, 65, 66, 67, 68, 69, 70, 71, 72, 73, 74, 75, 76, 77, 78, 79, 80] (by decide +kernel) (by decide +kernel)
set_option maxRecDepth 20000 in
theorem gX12_needPleads_X12_darkensAct : GoodIn wsX12_needPleads (wsV RX12 353 RX12 yX12_darkensAct wsX12_darkensAct) := goodIn_app (goodIn_of _ (by decide +kernel)) ggX12_needPleads_X12_darkensAct
theorem dX12_needPleads_0 : decode cX12_needPleads 0 = .ok (.aload_n 0, 1) := by decide +kernel
theorem dX12_needPleads_1 : decode cX12_needPleads 1 = .ok (.bipush 11, 2) := by decide +kernel
theorem dX12_needPleads_3 : decode cX12_needPleads 3 = .ok (.invokevirtual 346, 3) := by decide +kernel
theorem dX12_needPleads_6 : decode cX12_needPleads 6 = .ok (.aload_n 0, 1) := by decide +kernel
theorem dX12_needPleads_7 : decode cX12_needPleads 7 = .ok (.iload_n 1, 1) := by decide +kernel
theorem dX12_needPleads_8 : decode cX12_needPleads 8 = .ok (.iload_n 2, 1) := by decide +kernel
theorem dX12_needPleads_9 : decode cX12_needPleads 9 = .ok (.invokevirtual 353, 3) := by decide +kernel
theorem dX12_needPleads_12 : decode cX12_needPleads 12 = .ok (.aload_n 0, 1) := by decide +kernel
theorem dX12_needPleads_13 : decode cX12_needPleads 13 = .ok (.getfield 26, 3) := by decide +kernel
theorem dX12_needPleads_16 : decode cX12_needPleads 16 = .ok (.iload_n 1, 1) := by decide +kernel
theorem dX12_needPleads_17 : decode cX12_needPleads 17 = .ok (.iaload, 1) := by decide +kernel
theorem dX12_needPleads_18 : decode cX12_needPleads 18 = .ok (.isub, 1) := by decide +kernel
theorem dX12_needPleads_19 : decode cX12_needPleads 19 = .ok (.ireturn, 1) := by decide +kernel
set_option maxRecDepth 20000 in
theorem ggX12_siegePleads_X12_body : GoodIn wsX12_siegePleads wsX12_body := goodIn_r _ [5, 6, 7, 22, 23, 24, 25, 26, 27, 28, 29, 30, 31, 32, 33, 34, 35, 36, 37, 38, 39, 40, 41, 42, 43, 44, 45, 46, 47, 48, 49, 50, 51, 52, 53, 54, 55, 56, 57, 58, 59, 60, 61, 62, 63, 64, 65, 66, 67, 68, 69, 70, 71, 72, 73, 74, 75, 76, 77, 78, 79, 80, 81, 82, 83, 84] (by decide +kernel) (by decide +kernel)
set_option maxRecDepth 20000 in
theorem gX12_siegePleads_X12_body : GoodIn wsX12_siegePleads (wsV RX12 346 RX12 yX12_body wsX12_body) := goodIn_app (goodIn_of _ (by decide +kernel)) ggX12_siegePleads_X12_body
set_option maxRecDepth 20000 in
theorem ggX12_siegePleads_X12_needPleads : GoodIn wsX12_siegePleads wsX12_needPleads := goodIn_r _ [11, 12, 1, 2, 3, 4, 5, 6, 7, 13, 14, 15, 16, 17, 18, 19, 20, 21, 22, 23, 24, 25, 26, 27, 28, 29, 30, 31, 32, 33, 34, 35, 36, 37, 38, 39, 40, 41, 42, 43, 44, 45, 46, 47, 48, 49, 50, 51, 52, 53, 54, 55, 56, 57, 58, 59, 60, 61, 62, 63, 64, 65, 66, 67, 68, 69, 70, 71, 72, 73, 74, 75, 76, 77, 78, 79, 80, 81, 82, 83, 84] (by decide +kernel) (by decide +kernel)
set_option maxRecDepth 20000 in
theorem gX12_siegePleads_X12_needPleads : GoodIn wsX12_siegePleads (wsV RX12 356 RX12 yX12_needPleads wsX12_needPleads) := goodIn_app (goodIn_of _ (by decide +kernel)) ggX12_siegePleads_X12_needPleads
theorem dX12_siegePleads_0 : decode cX12_siegePleads 0 = .ok (.aload_n 0, 1) := by decide +kernel
theorem dX12_siegePleads_1 : decode cX12_siegePleads 1 = .ok (.bipush 20, 2) := by decide +kernel
theorem dX12_siegePleads_3 : decode cX12_siegePleads 3 = .ok (.invokevirtual 346, 3) := by decide +kernel
theorem dX12_siegePleads_6 : decode cX12_siegePleads 6 = .ok (.aload_n 0, 1) := by decide +kernel
theorem dX12_siegePleads_7 : decode cX12_siegePleads 7 = .ok (.iload_n 1, 1) := by decide +kernel
theorem dX12_siegePleads_8 : decode cX12_siegePleads 8 = .ok (.iload_n 2, 1) := by decide +kernel
theorem dX12_siegePleads_9 : decode cX12_siegePleads 9 = .ok (.invokevirtual 356, 3) := by decide +kernel
theorem dX12_siegePleads_12 : decode cX12_siegePleads 12 = .ok (.bipush 6, 2) := by decide +kernel
theorem dX12_siegePleads_14 : decode cX12_siegePleads 14 = .ok (.ixor, 1) := by decide +kernel
theorem dX12_siegePleads_15 : decode cX12_siegePleads 15 = .ok (.ireturn, 1) := by decide +kernel
set_option maxRecDepth 20000 in
theorem ggX12_pleadsAct_X12_siegePleads : GoodIn wsX12_pleadsAct wsX12_siegePleads := goodIn_r _ [6, 7, 8, 9, 5, 10, 11, 12, 13, 14, 15, 16, 17, 18, 19, 20, 21, 1, 22, 23, 24, 25, 26, 27, 28, 29, 30, 31, 32, 33, 34, 35, 36, 37, 38, 39, 40, 41, 42, 43, 44, 45, 46, 47, 48, 49, 50, 51, 52, 53, 54, 55, 56, 57, 58, 59, 60, 61, 62, 63, 64, 65, 66, 67, 68, 69, 70, 71, 72, 73, 74, 75, 76, 77, 78, 79, 80, 81, 82, 83, 84, 85, 86, 87, 88] (by decide +kernel) (by decide +kernel)
set_option maxRecDepth 20000 in
theorem gX12_pleadsAct_X12_siegePleads : GoodIn wsX12_pleadsAct (wsV RX12 359 RX12 yX12_siegePleads wsX12_siegePleads) := goodIn_app (goodIn_of _ (by decide +kernel)) ggX12_pleadsAct_X12_siegePleads
set_option maxRecDepth 20000 in
theorem ggX12_pleadsAct_X12_body : GoodIn wsX12_pleadsAct wsX12_body := goodIn_r _ [10, 11, 12, 26, 27, 28, 29, 30, 31, 32, 33, 34, 35, 36, 37, 38, 39, 40, 41, 42, 43, 44, 45, 46, 47, 48, 49, 50, 51, 52, 53, 54, 55, 56, 57, 58, 59, 60, 61, 62, 63, 64, 65, 66, 67, 68, 69, 70, 71, 72, 73, 74, 75, 76, 77, 78, 79, 80, 81, 82, 83, 84, 85, 86, 87, 88] (by decide +kernel) (by decide +kernel)
set_option maxRecDepth 20000 in
theorem gX12_pleadsAct_X12_body : GoodIn wsX12_pleadsAct (wsV RX12 346 RX12 yX12_body wsX12_body) := goodIn_app (goodIn_of _ (by decide +kernel)) ggX12_pleadsAct_X12_body
set_option maxRecDepth 20000 in
theorem ggX12_pleadsAct_X12_needPleads : GoodIn wsX12_pleadsAct wsX12_needPleads := goodIn_r _ [16, 17, 7, 8, 9, 5, 10, 11, 12, 18, 19, 20, 21, 1, 22, 23, 24, 25, 26, 27, 28, 29, 30, 31, 32, 33, 34, 35, 36, 37, 38, 39, 40, 41, 42, 43, 44, 45, 46, 47, 48, 49, 50, 51, 52, 53, 54, 55, 56, 57, 58, 59, 60, 61, 62, 63, 64, 65, 66, 67, 68, 69, 70, 71, 72, 73, 74, 75, 76, 77, 78, 79, 80, 81, 82, 83, 84, 85, 86, 87, 88] (by decide +kernel) (by decide +kernel)
set_option maxRecDepth 20000 in
theorem gX12_pleadsAct_X12_needPleads : GoodIn wsX12_pleadsAct (wsV RX12 356 RX12 yX12_needPleads wsX12_needPleads) := goodIn_app (goodIn_of _ (by decide +kernel)) ggX12_pleadsAct_X12_needPleads
set_option maxRecDepth 20000 in
theorem ggX12_pleadsAct_X12_needDarkens : GoodIn wsX12_pleadsAct wsX12_needDarkens := goodIn_r _ [25, 7, 8, 9, 5, 10, 11, 12, 26, 27, 28, 29, 30, 31, 32, 33, 34, 35, 36, 37, 38, 39, 40, 41, 42, 43, 44, 45, 46, 47, 48, 49, 50, 51, 52, 53, 54, 55, 56, 57, 58, 59, 60, 61, 62, 63, 64, 65, 66, 67, 68, 69, 70, 71, 72, 73, 74, 75, 76, 77, 78, 79, 80, 81, 82, 83, 84, 85, 86, 87, 88] (by decide +kernel) (by decide +kernel)
set_option maxRecDepth 20000 in
theorem gX12_pleadsAct_X12_needDarkens : GoodIn wsX12_pleadsAct (wsV RX12 349 RX12 yX12_needDarkens wsX12_needDarkens) := goodIn_app (goodIn_of _ (by decide +kernel)) ggX12_pleadsAct_X12_needDarkens
theorem dX12_pleadsAct_0 : decode cX12_pleadsAct 0 = .ok (.aload_n 0, 1) := by decide +kernel
theorem dX12_pleadsAct_1 : decode cX12_pleadsAct 1 = .ok (.getfield 22, 3) := by decide +kernel
theorem dX12_pleadsAct_4 : decode cX12_pleadsAct 4 = .ok (.iload_n 1, 1) := by decide +kernel
theorem dX12_pleadsAct_5 : decode cX12_pleadsAct 5 = .ok (.iaload, 1) := by decide +kernel
theorem dX12_pleadsAct_6 : decode cX12_pleadsAct 6 = .ok (.lookupswitch 78 #[(1, 34), (4, 41), (6, 56)], 34) := by decide +kernel
theorem dX12_pleadsAct_40 : decode cX12_pleadsAct 40 = .ok (.aload_n 0, 1) := by decide +kernel
theorem dX12_pleadsAct_41 : decode cX12_pleadsAct 41 = .ok (.iload_n 1, 1) := by decide +kernel
theorem dX12_pleadsAct_42 : decode cX12_pleadsAct 42 = .ok (.iload_n 2, 1) := by decide +kernel
theorem dX12_pleadsAct_43 : decode cX12_pleadsAct 43 = .ok (.invokevirtual 359, 3) := by decide +kernel
theorem dX12_pleadsAct_46 : decode cX12_pleadsAct 46 = .ok (.ireturn, 1) := by decide +kernel
theorem dX12_pleadsAct_47 : decode cX12_pleadsAct 47 = .ok (.aload_n 0, 1) := by decide +kernel
theorem dX12_pleadsAct_48 : decode cX12_pleadsAct 48 = .ok (.bipush 51, 2) := by decide +kernel
theorem dX12_pleadsAct_50 : decode cX12_pleadsAct 50 = .ok (.invokevirtual 346, 3) := by decide +kernel
theorem dX12_pleadsAct_53 : decode cX12_pleadsAct 53 = .ok (.aload_n 0, 1) := by decide +kernel
theorem dX12_pleadsAct_54 : decode cX12_pleadsAct 54 = .ok (.iload_n 1, 1) := by decide +kernel
theorem dX12_pleadsAct_55 : decode cX12_pleadsAct 55 = .ok (.iload_n 2, 1) := by decide +kernel
theorem dX12_pleadsAct_56 : decode cX12_pleadsAct 56 = .ok (.iconst 1, 1) := by decide +kernel
theorem dX12_pleadsAct_57 : decode cX12_pleadsAct 57 = .ok (.iadd, 1) := by decide +kernel
theorem dX12_pleadsAct_58 : decode cX12_pleadsAct 58 = .ok (.invokevirtual 359, 3) := by decide +kernel
theorem dX12_pleadsAct_61 : decode cX12_pleadsAct 61 = .ok (.ireturn, 1) := by decide +kernel
theorem dX12_pleadsAct_62 : decode cX12_pleadsAct 62 = .ok (.aload_n 0, 1) := by decide +kernel
theorem dX12_pleadsAct_63 : decode cX12_pleadsAct 63 = .ok (.bipush 70, 2) := by decide +kernel
theorem dX12_pleadsAct_65 : decode cX12_pleadsAct 65 = .ok (.invokevirtual 346, 3) := by decide +kernel
theorem dX12_pleadsAct_68 : decode cX12_pleadsAct 68 = .ok (.aload_n 0, 1) := by decide +kernel
theorem dX12_pleadsAct_69 : decode cX12_pleadsAct 69 = .ok (.iload_n 1, 1) := by decide +kernel
theorem dX12_pleadsAct_70 : decode cX12_pleadsAct 70 = .ok (.iload_n 2, 1) := by decide +kernel
theorem dX12_pleadsAct_71 : decode cX12_pleadsAct 71 = .ok (.invokevirtual 356, 3) := by decide +kernel
theorem dX12_pleadsAct_74 : decode cX12_pleadsAct 74 = .ok (.istore_n 3, 1) := by decide +kernel
theorem dX12_pleadsAct_75 : decode cX12_pleadsAct 75 = .ok (.iload_n 3, 1) := by decide +kernel
theorem dX12_pleadsAct_76 : decode cX12_pleadsAct 76 = .ok (.aload_n 0, 1) := by decide +kernel
theorem dX12_pleadsAct_77 : decode cX12_pleadsAct 77 = .ok (.iload_n 1, 1) := by decide +kernel
theorem dX12_pleadsAct_78 : decode cX12_pleadsAct 78 = .ok (.iconst 2, 1) := by decide +kernel
theorem dX12_pleadsAct_79 : decode cX12_pleadsAct 79 = .ok (.invokevirtual 349, 3) := by decide +kernel
theorem dX12_pleadsAct_82 : decode cX12_pleadsAct 82 = .ok (.iadd, 1) := by decide +kernel
theorem dX12_pleadsAct_83 : decode cX12_pleadsAct 83 = .ok (.ireturn, 1) := by decide +kernel
theorem dX12_pleadsAct_84 : decode cX12_pleadsAct 84 = .ok (.aload_n 0, 1) := by decide +kernel
theorem dX12_pleadsAct_85 : decode cX12_pleadsAct 85 = .ok (.iload_n 1, 1) := by decide +kernel
theorem dX12_pleadsAct_86 : decode cX12_pleadsAct 86 = .ok (.iload_n 2, 1) := by decide +kernel
theorem dX12_pleadsAct_87 : decode cX12_pleadsAct 87 = .ok (.invokevirtual 356, 3) := by decide +kernel
theorem dX12_pleadsAct_90 : decode cX12_pleadsAct 90 = .ok (.ireturn, 1) := by decide +kernel
set_option maxRecDepth 20000 in
theorem ggX12_needTells_X12_body : GoodIn wsX12_needTells wsX12_body := goodIn_r _ [5, 6, 7, 30, 31, 32, 33, 34, 35, 36, 37, 38, 39, 40, 41, 42, 43, 44, 45, 46, 47, 48, 49, 50, 51, 52, 53, 54, 55, 56, 57, 58, 59, 60, 61, 62, 63, 64, 65, 66, 67, 68, 69, 70, 71, 72, 73, 74, 75, 76, 77, 78, 79, 80, 81, 82, 83, 84, 85, 86, 87, 88, 89, 90, 91, 92] (by decide +kernel) (by decide +kernel)
set_option maxRecDepth 20000 in
theorem gX12_needTells_X12_body : GoodIn wsX12_needTells (wsV RX12 346 RX12 yX12_body wsX12_body) := goodIn_app (goodIn_of _ (by decide +kernel)) ggX12_needTells_X12_body
set_option maxRecDepth 20000 in
theorem ggX12_needTells_X12_pleadsAct : GoodIn wsX12_needTells wsX12_pleadsAct := goodIn_r _ [11, 12, 13, 14, 15, 4, 16, 1, 2, 3, 5, 6, 7, 17, 18, 19, 20, 21, 22, 23, 24, 25, 26, 27, 28, 29, 30, 31, 32, 33, 34, 35, 36, 37, 38, 39, 40, 41, 42, 43, 44, 45, 46, 47, 48, 49, 50, 51, 52, 53, 54, 55, 56, 57, 58, 59, 60, 61, 62, 63, 64, 65, 66, 67, 68, 69, 70, 71, 72, 73, 74, 75, 76, 77, 78, 79, 80, 81, 82, 83, 84, 85, 86, 87, 88, 89, 90, 91, 92] (by decide +kernel) (by decide +kernel)
set_option maxRecDepth 20000 in
theorem gX12_needTells_X12_pleadsAct : GoodIn wsX12_needTells (wsV RX12 362 RX12 yX12_pleadsAct wsX12_pleadsAct) := goodIn_app (goodIn_of _ (by decide +kernel)) ggX12_needTells_X12_pleadsAct
theorem dX12_needTells_0 : decode cX12_needTells 0 = .ok (.aload_n 0, 1) := by decide +kernel
theorem dX12_needTells_1 : decode cX12_needTells 1 = .ok (.bipush 12, 2) := by decide +kernel
theorem dX12_needTells_3 : decode cX12_needTells 3 = .ok (.invokevirtual 346, 3) := by decide +kernel
theorem dX12_needTells_6 : decode cX12_needTells 6 = .ok (.aload_n 0, 1) := by decide +kernel
theorem dX12_needTells_7 : decode cX12_needTells 7 = .ok (.iload_n 1, 1) := by decide +kernel
theorem dX12_needTells_8 : decode cX12_needTells 8 = .ok (.iload_n 2, 1) := by decide +kernel
theorem dX12_needTells_9 : decode cX12_needTells 9 = .ok (.invokevirtual 362, 3) := by decide +kernel
theorem dX12_needTells_12 : decode cX12_needTells 12 = .ok (.iconst 2, 1) := by decide +kernel
theorem dX12_needTells_13 : decode cX12_needTells 13 = .ok (.imul, 1) := by decide +kernel
theorem dX12_needTells_14 : decode cX12_needTells 14 = .ok (.ireturn, 1) := by decide +kernel
set_option maxRecDepth 20000 in
theorem ggX12_tellsAct_X12_body : GoodIn wsX12_tellsAct wsX12_body := goodIn_r _ [6, 7, 8, 34, 35, 36, 37, 38, 39, 40, 41, 42, 43, 44, 45, 46, 47, 48, 49, 50, 51, 52, 53, 54, 55, 56, 57, 58, 59, 60, 61, 62, 63, 64, 65, 66, 67, 68, 69, 70, 71, 72, 73, 74, 75, 76, 77, 78, 79, 80, 81, 82, 83, 84, 85, 86, 87, 88, 89, 90, 91, 92, 93, 94, 95, 96] (by decide +kernel) (by decide +kernel)
set_option maxRecDepth 20000 in
theorem gX12_tellsAct_X12_body : GoodIn wsX12_tellsAct (wsV RX12 346 RX12 yX12_body wsX12_body) := goodIn_app (goodIn_of _ (by decide +kernel)) ggX12_tellsAct_X12_body
set_option maxRecDepth 20000 in
theorem ggX12_tellsAct_X12_needTells : GoodIn wsX12_tellsAct wsX12_needTells := goodIn_r _ [12, 2, 3, 4, 5, 6, 7, 8, 13, 14, 15, 16, 1, 17, 18, 19, 20, 21, 22, 23, 24, 25, 26, 27, 28, 29, 30, 31, 32, 33, 34, 35, 36, 37, 38, 39, 40, 41, 42, 43, 44, 45, 46, 47, 48, 49, 50, 51, 52, 53, 54, 55, 56, 57, 58, 59, 60, 61, 62, 63, 64, 65, 66, 67, 68, 69, 70, 71, 72, 73, 74, 75, 76, 77, 78, 79, 80, 81, 82, 83, 84, 85, 86, 87, 88, 89, 90, 91, 92, 93, 94, 95, 96] (by decide +kernel) (by decide +kernel)
set_option maxRecDepth 20000 in
theorem gX12_tellsAct_X12_needTells : GoodIn wsX12_tellsAct (wsV RX12 365 RX12 yX12_needTells wsX12_needTells) := goodIn_app (goodIn_of _ (by decide +kernel)) ggX12_tellsAct_X12_needTells
set_option maxRecDepth 20000 in
theorem ggX12_tellsAct_X12_pleadsAct : GoodIn wsX12_tellsAct wsX12_pleadsAct := goodIn_r _ [16, 1, 17, 18, 19, 5, 20, 2, 3, 4, 6, 7, 8, 21, 22, 23, 24, 25, 26, 27, 28, 29, 30, 31, 32, 33, 34, 35, 36, 37, 38, 39, 40, 41, 42, 43, 44, 45, 46, 47, 48, 49, 50, 51, 52, 53, 54, 55, 56, 57, 58, 59, 60, 61, 62, 63, 64, 65, 66, 67, 68, 69, 70, 71, 72, 73, 74, 75, 76, 77, 78, 79, 80, 81, 82, 83, 84, 85, 86, 87, 88, 89, 90, 91, 92, 93, 94, 95, 96] (by decide +kernel) (by decide +kernel)
set_option maxRecDepth 20000 in
theorem gX12_tellsAct_X12_pleadsAct : GoodIn wsX12_tellsAct (wsV RX12 362 RX12 yX12_pleadsAct wsX12_pleadsAct) := goodIn_app (goodIn_of _ (by decide +kernel)) ggX12_tellsAct_X12_pleadsAct
theorem dX12_tellsAct_0 : decode cX12_tellsAct 0 = .ok (.aload_n 0, 1) := by decide +kernel
theorem dX12_tellsAct_1 : decode cX12_tellsAct 1 = .ok (.getfield 22, 3) := by decide +kernel
theorem dX12_tellsAct_4 : decode cX12_tellsAct 4 = .ok (.iload_n 1, 1) := by decide +kernel
theorem dX12_tellsAct_5 : decode cX12_tellsAct 5 = .ok (.iaload, 1) := by decide +kernel
theorem dX12_tellsAct_6 : decode cX12_tellsAct 6 = .ok (.tableswitch 67 3 6 #[30, 67, 52, 30], 30) := by decide +kernel
theorem dX12_tellsAct_36 : decode cX12_tellsAct 36 = .ok (.aload_n 0, 1) := by decide +kernel
theorem dX12_tellsAct_37 : decode cX12_tellsAct 37 = .ok (.bipush 40, 2) := by decide +kernel
theorem dX12_tellsAct_39 : decode cX12_tellsAct 39 = .ok (.invokevirtual 346, 3) := by decide +kernel
theorem dX12_tellsAct_42 : decode cX12_tellsAct 42 = .ok (.aload_n 0, 1) := by decide +kernel
theorem dX12_tellsAct_43 : decode cX12_tellsAct 43 = .ok (.iload_n 1, 1) := by decide +kernel
theorem dX12_tellsAct_44 : decode cX12_tellsAct 44 = .ok (.iload_n 2, 1) := by decide +kernel
theorem dX12_tellsAct_45 : decode cX12_tellsAct 45 = .ok (.invokevirtual 365, 3) := by decide +kernel
theorem dX12_tellsAct_48 : decode cX12_tellsAct 48 = .ok (.istore_n 3, 1) := by decide +kernel
theorem dX12_tellsAct_49 : decode cX12_tellsAct 49 = .ok (.iload_n 3, 1) := by decide +kernel
theorem dX12_tellsAct_50 : decode cX12_tellsAct 50 = .ok (.aload_n 0, 1) := by decide +kernel
theorem dX12_tellsAct_51 : decode cX12_tellsAct 51 = .ok (.iload_n 1, 1) := by decide +kernel
theorem dX12_tellsAct_52 : decode cX12_tellsAct 52 = .ok (.iconst 1, 1) := by decide +kernel
theorem dX12_tellsAct_53 : decode cX12_tellsAct 53 = .ok (.invokevirtual 362, 3) := by decide +kernel
theorem dX12_tellsAct_56 : decode cX12_tellsAct 56 = .ok (.iadd, 1) := by decide +kernel
theorem dX12_tellsAct_57 : decode cX12_tellsAct 57 = .ok (.ireturn, 1) := by decide +kernel
theorem dX12_tellsAct_58 : decode cX12_tellsAct 58 = .ok (.aload_n 0, 1) := by decide +kernel
theorem dX12_tellsAct_59 : decode cX12_tellsAct 59 = .ok (.bipush 60, 2) := by decide +kernel
theorem dX12_tellsAct_61 : decode cX12_tellsAct 61 = .ok (.invokevirtual 346, 3) := by decide +kernel
theorem dX12_tellsAct_64 : decode cX12_tellsAct 64 = .ok (.aload_n 0, 1) := by decide +kernel
theorem dX12_tellsAct_65 : decode cX12_tellsAct 65 = .ok (.iload_n 1, 1) := by decide +kernel
theorem dX12_tellsAct_66 : decode cX12_tellsAct 66 = .ok (.iload_n 2, 1) := by decide +kernel
theorem dX12_tellsAct_67 : decode cX12_tellsAct 67 = .ok (.iload_n 1, 1) := by decide +kernel
theorem dX12_tellsAct_68 : decode cX12_tellsAct 68 = .ok (.isub, 1) := by decide +kernel
theorem dX12_tellsAct_69 : decode cX12_tellsAct 69 = .ok (.invokevirtual 365, 3) := by decide +kernel
theorem dX12_tellsAct_72 : decode cX12_tellsAct 72 = .ok (.ireturn, 1) := by decide +kernel
theorem dX12_tellsAct_73 : decode cX12_tellsAct 73 = .ok (.aload_n 0, 1) := by decide +kernel
theorem dX12_tellsAct_74 : decode cX12_tellsAct 74 = .ok (.iload_n 1, 1) := by decide +kernel
theorem dX12_tellsAct_75 : decode cX12_tellsAct 75 = .ok (.iload_n 2, 1) := by decide +kernel
theorem dX12_tellsAct_76 : decode cX12_tellsAct 76 = .ok (.invokevirtual 365, 3) := by decide +kernel
theorem dX12_tellsAct_79 : decode cX12_tellsAct 79 = .ok (.ireturn, 1) := by decide +kernel
set_option maxRecDepth 20000 in
theorem ggX12_act_X12_isNeed : GoodIn wsX12_act wsX12_isNeed := goodIn_r _ [6, 7, 8, 9, 10, 5, 11, 47, 48, 49, 50, 51, 52, 53, 54, 55, 56, 57, 58, 59, 60, 61, 62, 63, 64, 65, 66, 67, 68, 69, 70, 71, 72, 73, 74, 75, 76, 77, 78, 79, 80, 81, 82, 83, 84, 85, 86, 87, 88, 89, 90, 91, 92, 93, 94, 95, 96, 97, 98, 99, 100, 101, 102, 103, 104, 105, 106, 107, 108, 109] (by decide +kernel) (by decide +kernel)
set_option maxRecDepth 20000 in
theorem gX12_act_X12_isNeed : GoodIn wsX12_act (wsV RX12 215 RX12 yX12_isNeed wsX12_isNeed) := goodIn_app (goodIn_of _ (by decide +kernel)) ggX12_act_X12_isNeed
set_option maxRecDepth 20000 in
theorem ggX12_act_X12_in : GoodIn wsX12_act wsX12_in := goodIn_r _ [11] (by decide +kernel) (by decide +kernel)
set_option maxRecDepth 20000 in
theorem gX12_act_X12_in : GoodIn wsX12_act (wsV RX12 207 RX12 yX12_in wsX12_in) := goodIn_app (goodIn_of _ (by decide +kernel)) ggX12_act_X12_in
set_option maxRecDepth 20000 in
theorem ggX12_act_X12_darkensAct : GoodIn wsX12_act wsX12_darkensAct := goodIn_r _ [15, 16, 17, 18, 19, 20, 5, 21, 1, 22, 23, 24, 25, 26, 47, 48, 49, 50, 51, 52, 53, 54, 55, 56, 57, 58, 59, 60, 61, 62, 63, 64, 65, 66, 67, 68, 69, 70, 71, 72, 73, 74, 75, 76, 77, 78, 79, 80, 81, 82, 83, 84, 85, 86, 87, 88, 89, 90, 91, 92, 93, 94, 95, 96, 97, 98, 99, 100, 101, 102, 103, 104, 105, 106, 107, 108, 109] (by decide +kernel) (by decide +kernel)
set_option maxRecDepth 20000 in
theorem gX12_act_X12_darkensAct : GoodIn wsX12_act (wsV RX12 353 RX12 yX12_darkensAct wsX12_darkensAct) := goodIn_app (goodIn_of _ (by decide +kernel)) ggX12_act_X12_darkensAct
set_option maxRecDepth 20000 in
theorem ggX12_act_X12_pleadsAct : GoodIn wsX12_act wsX12_pleadsAct := goodIn_r _ [30, 16, 31, 32, 33, 5, 34, 18, 19, 20, 21, 1, 22, 35, 36, 37, 38, 17, 12, 13, 14, 15, 23, 24, 25, 26, 47, 48, 49, 50, 51, 52, 53, 54, 55, 56, 57, 58, 59, 60, 61, 62, 63, 64, 65, 66, 67, 68, 69, 70, 71, 72, 73, 74, 75, 76, 77, 78, 79, 80, 81, 82, 83, 84, 85, 86, 87, 88, 89, 90, 91, 92, 93, 94, 95, 96, 97, 98, 99, 100, 101, 102, 103, 104, 105, 106, 107, 108, 109] (by decide +kernel) (by decide +kernel)
set_option maxRecDepth 20000 in
theorem gX12_act_X12_pleadsAct : GoodIn wsX12_act (wsV RX12 362 RX12 yX12_pleadsAct wsX12_pleadsAct) := goodIn_app (goodIn_of _ (by decide +kernel)) ggX12_act_X12_pleadsAct
set_option maxRecDepth 20000 in
theorem ggX12_act_X12_tellsAct : GoodIn wsX12_act wsX12_tellsAct := goodIn_r _ [42, 16, 18, 19, 20, 5, 21, 1, 22, 43, 44, 45, 46, 27, 28, 29, 30, 31, 32, 33, 34, 35, 36, 37, 38, 17, 12, 13, 14, 15, 23, 24, 25, 26, 47, 48, 49, 50, 51, 52, 53, 54, 55, 56, 57, 58, 59, 60, 61, 62, 63, 64, 65, 66, 67, 68, 69, 70, 71, 72, 73, 74, 75, 76, 77, 78, 79, 80, 81, 82, 83, 84, 85, 86, 87, 88, 89, 90, 91, 92, 93, 94, 95, 96, 97, 98, 99, 100, 101, 102, 103, 104, 105, 106, 107, 108, 109] (by decide +kernel) (by decide +kernel)
set_option maxRecDepth 20000 in
theorem gX12_act_X12_tellsAct : GoodIn wsX12_act (wsV RX12 368 RX12 yX12_tellsAct wsX12_tellsAct) := goodIn_app (goodIn_of _ (by decide +kernel)) ggX12_act_X12_tellsAct
theorem dX12_act_0 : decode cX12_act 0 = .ok (.aload_n 0, 1) := by decide +kernel
theorem dX12_act_1 : decode cX12_act 1 = .ok (.iconst 0, 1) := by decide +kernel
theorem dX12_act_2 : decode cX12_act 2 = .ok (.putfield 185, 3) := by decide +kernel
theorem dX12_act_5 : decode cX12_act 5 = .ok (.aload_n 0, 1) := by decide +kernel
theorem dX12_act_6 : decode cX12_act 6 = .ok (.iload_n 1, 1) := by decide +kernel
theorem dX12_act_7 : decode cX12_act 7 = .ok (.invokevirtual 215, 3) := by decide +kernel
theorem dX12_act_10 : decode cX12_act 10 = .ok (.ifCond .eq 13, 3) := by decide +kernel
theorem dX12_act_13 : decode cX12_act 13 = .ok (.aload_n 0, 1) := by decide +kernel
theorem dX12_act_14 : decode cX12_act 14 = .ok (.iload_n 2, 1) := by decide +kernel
theorem dX12_act_15 : decode cX12_act 15 = .ok (.iconst 0, 1) := by decide +kernel
theorem dX12_act_16 : decode cX12_act 16 = .ok (.iconst 2, 1) := by decide +kernel
theorem dX12_act_17 : decode cX12_act 17 = .ok (.invokevirtual 207, 3) := by decide +kernel
theorem dX12_act_20 : decode cX12_act 20 = .ok (.ifCond .ne 5, 3) := by decide +kernel
theorem dX12_act_23 : decode cX12_act 23 = .ok (.iconst 0, 1) := by decide +kernel
theorem dX12_act_24 : decode cX12_act 24 = .ok (.ireturn, 1) := by decide +kernel
theorem dX12_act_25 : decode cX12_act 25 = .ok (.iload_n 2, 1) := by decide +kernel
theorem dX12_act_26 : decode cX12_act 26 = .ok (.ifCond .ne 12, 3) := by decide +kernel
theorem dX12_act_29 : decode cX12_act 29 = .ok (.aload_n 0, 1) := by decide +kernel
theorem dX12_act_30 : decode cX12_act 30 = .ok (.iload_n 1, 1) := by decide +kernel
theorem dX12_act_31 : decode cX12_act 31 = .ok (.iload_n 3, 1) := by decide +kernel
theorem dX12_act_32 : decode cX12_act 32 = .ok (.invokevirtual 353, 3) := by decide +kernel
theorem dX12_act_35 : decode cX12_act 35 = .ok (.goto 23, 3) := by decide +kernel
theorem dX12_act_38 : decode cX12_act 38 = .ok (.iload_n 2, 1) := by decide +kernel
theorem dX12_act_39 : decode cX12_act 39 = .ok (.iconst 1, 1) := by decide +kernel
theorem dX12_act_40 : decode cX12_act 40 = .ok (.if_icmp .ne 12, 3) := by decide +kernel
theorem dX12_act_43 : decode cX12_act 43 = .ok (.aload_n 0, 1) := by decide +kernel
theorem dX12_act_44 : decode cX12_act 44 = .ok (.iload_n 1, 1) := by decide +kernel
theorem dX12_act_45 : decode cX12_act 45 = .ok (.iload_n 3, 1) := by decide +kernel
theorem dX12_act_46 : decode cX12_act 46 = .ok (.invokevirtual 362, 3) := by decide +kernel
theorem dX12_act_49 : decode cX12_act 49 = .ok (.goto 9, 3) := by decide +kernel
theorem dX12_act_52 : decode cX12_act 52 = .ok (.aload_n 0, 1) := by decide +kernel
theorem dX12_act_53 : decode cX12_act 53 = .ok (.iload_n 1, 1) := by decide +kernel
theorem dX12_act_54 : decode cX12_act 54 = .ok (.iload_n 3, 1) := by decide +kernel
theorem dX12_act_55 : decode cX12_act 55 = .ok (.invokevirtual 368, 3) := by decide +kernel
theorem dX12_act_58 : decode cX12_act 58 = .ok (.ireturn, 1) := by decide +kernel
set_option maxRecDepth 20000 in
theorem ggX12_trace_X12_in : GoodIn wsX12_trace wsX12_in := goodIn_r _ [7] (by decide +kernel) (by decide +kernel)
set_option maxRecDepth 20000 in
theorem gX12_trace_X12_in : GoodIn wsX12_trace (wsV RX12 207 RX12 yX12_in wsX12_in) := goodIn_app (goodIn_of _ (by decide +kernel)) ggX12_trace_X12_in
theorem dX12_trace_0 : decode cX12_trace 0 = .ok (.aload_n 0, 1) := by decide +kernel
theorem dX12_trace_1 : decode cX12_trace 1 = .ok (.iload_n 1, 1) := by decide +kernel
theorem dX12_trace_2 : decode cX12_trace 2 = .ok (.iconst 0, 1) := by decide +kernel
theorem dX12_trace_3 : decode cX12_trace 3 = .ok (.bipush 19, 2) := by decide +kernel
theorem dX12_trace_5 : decode cX12_trace 5 = .ok (.invokevirtual 207, 3) := by decide +kernel
theorem dX12_trace_8 : decode cX12_trace 8 = .ok (.ifCond .eq 20, 3) := by decide +kernel
theorem dX12_trace_11 : decode cX12_trace 11 = .ok (.iload_n 1, 1) := by decide +kernel
theorem dX12_trace_12 : decode cX12_trace 12 = .ok (.aload_n 0, 1) := by decide +kernel
theorem dX12_trace_13 : decode cX12_trace 13 = .ok (.getfield 185, 3) := by decide +kernel
theorem dX12_trace_16 : decode cX12_trace 16 = .ok (.if_icmp .ge 12, 3) := by decide +kernel
theorem dX12_trace_19 : decode cX12_trace 19 = .ok (.aload_n 0, 1) := by decide +kernel
theorem dX12_trace_20 : decode cX12_trace 20 = .ok (.getfield 188, 3) := by decide +kernel
theorem dX12_trace_23 : decode cX12_trace 23 = .ok (.iload_n 1, 1) := by decide +kernel
theorem dX12_trace_24 : decode cX12_trace 24 = .ok (.iaload, 1) := by decide +kernel
theorem dX12_trace_25 : decode cX12_trace 25 = .ok (.goto 4, 3) := by decide +kernel
theorem dX12_trace_28 : decode cX12_trace 28 = .ok (.iconst (-1), 1) := by decide +kernel
theorem dX12_trace_29 : decode cX12_trace 29 = .ok (.ireturn, 1) := by decide +kernel
set_option maxRecDepth 20000 in
theorem ggX12_taken_X12_in : GoodIn wsX12_taken wsX12_in := goodIn_r _ [6] (by decide +kernel) (by decide +kernel)
set_option maxRecDepth 20000 in
theorem gX12_taken_X12_in : GoodIn wsX12_taken (wsV RX12 207 RX12 yX12_in wsX12_in) := goodIn_app (goodIn_of _ (by decide +kernel)) ggX12_taken_X12_in
set_option maxRecDepth 20000 in
theorem ggX12_taken_X12_isNeed : GoodIn wsX12_taken wsX12_isNeed := goodIn_r _ [10, 11, 2, 3, 4, 5, 6, 12, 13, 14, 15, 16, 17, 18, 19, 20, 21, 22, 23, 24, 25, 26, 27, 28, 29, 30, 31, 32, 33, 34, 35, 36, 37, 38, 39, 40, 41, 42, 43, 44, 45, 46, 47, 48, 49, 50, 51, 52, 53, 54, 55, 56, 57, 58, 59, 60, 61, 62, 63, 64, 65, 66, 67, 68, 69, 70, 71, 72, 73, 74] (by decide +kernel) (by decide +kernel)
set_option maxRecDepth 20000 in
theorem gX12_taken_X12_isNeed : GoodIn wsX12_taken (wsV RX12 215 RX12 yX12_isNeed wsX12_isNeed) := goodIn_app (goodIn_of _ (by decide +kernel)) ggX12_taken_X12_isNeed
theorem dX12_taken_0 : decode cX12_taken 0 = .ok (.aload_n 0, 1) := by decide +kernel
theorem dX12_taken_1 : decode cX12_taken 1 = .ok (.iload_n 2, 1) := by decide +kernel
theorem dX12_taken_2 : decode cX12_taken 2 = .ok (.iconst 0, 1) := by decide +kernel
theorem dX12_taken_3 : decode cX12_taken 3 = .ok (.bipush 6, 2) := by decide +kernel
theorem dX12_taken_5 : decode cX12_taken 5 = .ok (.invokevirtual 207, 3) := by decide +kernel
theorem dX12_taken_8 : decode cX12_taken 8 = .ok (.ifCond .ne 6, 3) := by decide +kernel
theorem dX12_taken_11 : decode cX12_taken 11 = .ok (.bipush (-2), 2) := by decide +kernel
theorem dX12_taken_13 : decode cX12_taken 13 = .ok (.ireturn, 1) := by decide +kernel
theorem dX12_taken_14 : decode cX12_taken 14 = .ok (.aload_n 0, 1) := by decide +kernel
theorem dX12_taken_15 : decode cX12_taken 15 = .ok (.iload_n 1, 1) := by decide +kernel
theorem dX12_taken_16 : decode cX12_taken 16 = .ok (.invokevirtual 215, 3) := by decide +kernel
theorem dX12_taken_19 : decode cX12_taken 19 = .ok (.ifCond .ne 6, 3) := by decide +kernel
theorem dX12_taken_22 : decode cX12_taken 22 = .ok (.bipush (-11), 2) := by decide +kernel
theorem dX12_taken_24 : decode cX12_taken 24 = .ok (.ireturn, 1) := by decide +kernel
theorem dX12_taken_25 : decode cX12_taken 25 = .ok (.aload_n 0, 1) := by decide +kernel
theorem dX12_taken_26 : decode cX12_taken 26 = .ok (.getfield 22, 3) := by decide +kernel
theorem dX12_taken_29 : decode cX12_taken 29 = .ok (.iload_n 1, 1) := by decide +kernel
theorem dX12_taken_30 : decode cX12_taken 30 = .ok (.iaload, 1) := by decide +kernel
theorem dX12_taken_31 : decode cX12_taken 31 = .ok (.istore_n 3, 1) := by decide +kernel
theorem dX12_taken_32 : decode cX12_taken 32 = .ok (.iload_n 2, 1) := by decide +kernel
theorem dX12_taken_33 : decode cX12_taken 33 = .ok (.ifCond .eq 39, 3) := by decide +kernel
theorem dX12_taken_36 : decode cX12_taken 36 = .ok (.iload_n 3, 1) := by decide +kernel
theorem dX12_taken_37 : decode cX12_taken 37 = .ok (.iload_n 2, 1) := by decide +kernel
theorem dX12_taken_38 : decode cX12_taken 38 = .ok (.if_icmp .eq 34, 3) := by decide +kernel
theorem dX12_taken_41 : decode cX12_taken 41 = .ok (.iload_n 2, 1) := by decide +kernel
theorem dX12_taken_42 : decode cX12_taken 42 = .ok (.iconst 1, 1) := by decide +kernel
theorem dX12_taken_43 : decode cX12_taken 43 = .ok (.if_icmp .ne 8, 3) := by decide +kernel
theorem dX12_taken_46 : decode cX12_taken 46 = .ok (.iload_n 3, 1) := by decide +kernel
theorem dX12_taken_47 : decode cX12_taken 47 = .ok (.iconst 4, 1) := by decide +kernel
theorem dX12_taken_48 : decode cX12_taken 48 = .ok (.if_icmp .eq 24, 3) := by decide +kernel
theorem dX12_taken_51 : decode cX12_taken 51 = .ok (.iload_n 2, 1) := by decide +kernel
theorem dX12_taken_52 : decode cX12_taken 52 = .ok (.iconst 2, 1) := by decide +kernel
theorem dX12_taken_53 : decode cX12_taken 53 = .ok (.if_icmp .ne 8, 3) := by decide +kernel
theorem dX12_taken_56 : decode cX12_taken 56 = .ok (.iload_n 3, 1) := by decide +kernel
theorem dX12_taken_57 : decode cX12_taken 57 = .ok (.iconst 5, 1) := by decide +kernel
theorem dX12_taken_58 : decode cX12_taken 58 = .ok (.if_icmp .eq 14, 3) := by decide +kernel
theorem dX12_taken_61 : decode cX12_taken 61 = .ok (.iload_n 2, 1) := by decide +kernel
theorem dX12_taken_62 : decode cX12_taken 62 = .ok (.iconst 3, 1) := by decide +kernel
theorem dX12_taken_63 : decode cX12_taken 63 = .ok (.if_icmp .ne 13, 3) := by decide +kernel
theorem dX12_taken_66 : decode cX12_taken 66 = .ok (.iload_n 3, 1) := by decide +kernel
theorem dX12_taken_67 : decode cX12_taken 67 = .ok (.bipush 6, 2) := by decide +kernel
theorem dX12_taken_69 : decode cX12_taken 69 = .ok (.if_icmp .ne 7, 3) := by decide +kernel
theorem dX12_taken_72 : decode cX12_taken 72 = .ok (.iload_n 3, 1) := by decide +kernel
theorem dX12_taken_73 : decode cX12_taken 73 = .ok (.goto 5, 3) := by decide +kernel
theorem dX12_taken_76 : decode cX12_taken 76 = .ok (.bipush (-12), 2) := by decide +kernel
theorem dX12_taken_78 : decode cX12_taken 78 = .ok (.ireturn, 1) := by decide +kernel
theorem dX12_count_0 : decode cX12_count 0 = .ok (.iload_n 1, 1) := by decide +kernel
theorem dX12_count_1 : decode cX12_count 1 = .ok (.tableswitch 78 0 6 #[43, 48, 53, 58, 63, 68, 73], 43) := by decide +kernel
theorem dX12_count_44 : decode cX12_count 44 = .ok (.aload_n 0, 1) := by decide +kernel
theorem dX12_count_45 : decode cX12_count 45 = .ok (.getfield 7, 3) := by decide +kernel
theorem dX12_count_48 : decode cX12_count 48 = .ok (.ireturn, 1) := by decide +kernel
theorem dX12_count_49 : decode cX12_count 49 = .ok (.aload_n 0, 1) := by decide +kernel
theorem dX12_count_50 : decode cX12_count 50 = .ok (.getfield 35, 3) := by decide +kernel
theorem dX12_count_53 : decode cX12_count 53 = .ok (.ireturn, 1) := by decide +kernel
theorem dX12_count_54 : decode cX12_count 54 = .ok (.aload_n 0, 1) := by decide +kernel
theorem dX12_count_55 : decode cX12_count 55 = .ok (.getfield 100, 3) := by decide +kernel
theorem dX12_count_58 : decode cX12_count 58 = .ok (.ireturn, 1) := by decide +kernel
theorem dX12_count_59 : decode cX12_count 59 = .ok (.aload_n 0, 1) := by decide +kernel
theorem dX12_count_60 : decode cX12_count 60 = .ok (.getfield 106, 3) := by decide +kernel
theorem dX12_count_63 : decode cX12_count 63 = .ok (.ireturn, 1) := by decide +kernel
theorem dX12_count_64 : decode cX12_count 64 = .ok (.aload_n 0, 1) := by decide +kernel
theorem dX12_count_65 : decode cX12_count 65 = .ok (.getfield 109, 3) := by decide +kernel
theorem dX12_count_68 : decode cX12_count 68 = .ok (.ireturn, 1) := by decide +kernel
theorem dX12_count_69 : decode cX12_count 69 = .ok (.aload_n 0, 1) := by decide +kernel
theorem dX12_count_70 : decode cX12_count 70 = .ok (.getfield 41, 3) := by decide +kernel
theorem dX12_count_73 : decode cX12_count 73 = .ok (.ireturn, 1) := by decide +kernel
theorem dX12_count_74 : decode cX12_count 74 = .ok (.aload_n 0, 1) := by decide +kernel
theorem dX12_count_75 : decode cX12_count 75 = .ok (.getfield 185, 3) := by decide +kernel
theorem dX12_count_78 : decode cX12_count 78 = .ok (.ireturn, 1) := by decide +kernel
theorem dX12_count_79 : decode cX12_count 79 = .ok (.bipush (-2), 2) := by decide +kernel
theorem dX12_count_81 : decode cX12_count 81 = .ok (.ireturn, 1) := by decide +kernel
set_option maxRecDepth 20000 in
theorem ggX12_isTape_X12_in : GoodIn wsX12_isTape wsX12_in := goodIn_r _ [5] (by decide +kernel) (by decide +kernel)
set_option maxRecDepth 20000 in
theorem gX12_isTape_X12_in : GoodIn wsX12_isTape (wsV RX12 207 RX12 yX12_in wsX12_in) := goodIn_app (goodIn_of _ (by decide +kernel)) ggX12_isTape_X12_in
theorem dX12_isTape_0 : decode cX12_isTape 0 = .ok (.aload_n 0, 1) := by decide +kernel
theorem dX12_isTape_1 : decode cX12_isTape 1 = .ok (.iload_n 1, 1) := by decide +kernel
theorem dX12_isTape_2 : decode cX12_isTape 2 = .ok (.iconst 0, 1) := by decide +kernel
theorem dX12_isTape_3 : decode cX12_isTape 3 = .ok (.iconst 5, 1) := by decide +kernel
theorem dX12_isTape_4 : decode cX12_isTape 4 = .ok (.invokevirtual 207, 3) := by decide +kernel
theorem dX12_isTape_7 : decode cX12_isTape 7 = .ok (.ireturn, 1) := by decide +kernel
set_option maxRecDepth 20000 in
theorem ggX12_tape_X12_isTape : GoodIn wsX12_tape wsX12_isTape := goodIn_r _ [8, 9, 10, 11, 7, 12] (by decide +kernel) (by decide +kernel)
set_option maxRecDepth 20000 in
theorem gX12_tape_X12_isTape : GoodIn wsX12_tape (wsV RX12 343 RX12 yX12_isTape wsX12_isTape) := goodIn_app (goodIn_of _ (by decide +kernel)) ggX12_tape_X12_isTape
set_option maxRecDepth 20000 in
theorem ggX12_tape_X12_in : GoodIn wsX12_tape wsX12_in := goodIn_r _ [12] (by decide +kernel) (by decide +kernel)
set_option maxRecDepth 20000 in
theorem gX12_tape_X12_in : GoodIn wsX12_tape (wsV RX12 207 RX12 yX12_in wsX12_in) := goodIn_app (goodIn_of _ (by decide +kernel)) ggX12_tape_X12_in
theorem dX12_tape_0 : decode cX12_tape 0 = .ok (.aload_n 0, 1) := by decide +kernel
theorem dX12_tape_1 : decode cX12_tape 1 = .ok (.iload_n 1, 1) := by decide +kernel
theorem dX12_tape_2 : decode cX12_tape 2 = .ok (.invokevirtual 343, 3) := by decide +kernel
theorem dX12_tape_5 : decode cX12_tape 5 = .ok (.ifCond .ne 5, 3) := by decide +kernel
theorem dX12_tape_8 : decode cX12_tape 8 = .ok (.iconst (-1), 1) := by decide +kernel
theorem dX12_tape_9 : decode cX12_tape 9 = .ok (.ireturn, 1) := by decide +kernel
theorem dX12_tape_10 : decode cX12_tape 10 = .ok (.aload_n 0, 1) := by decide +kernel
theorem dX12_tape_11 : decode cX12_tape 11 = .ok (.iload_n 2, 1) := by decide +kernel
theorem dX12_tape_12 : decode cX12_tape 12 = .ok (.iconst (-1), 1) := by decide +kernel
theorem dX12_tape_13 : decode cX12_tape 13 = .ok (.iconst 4, 1) := by decide +kernel
theorem dX12_tape_14 : decode cX12_tape 14 = .ok (.invokevirtual 207, 3) := by decide +kernel
theorem dX12_tape_17 : decode cX12_tape 17 = .ok (.ifCond .eq 13, 3) := by decide +kernel
theorem dX12_tape_20 : decode cX12_tape 20 = .ok (.iload_n 2, 1) := by decide +kernel
theorem dX12_tape_21 : decode cX12_tape 21 = .ok (.ifCond .lt 12, 3) := by decide +kernel
theorem dX12_tape_24 : decode cX12_tape 24 = .ok (.iload_n 3, 1) := by decide +kernel
theorem dX12_tape_25 : decode cX12_tape 25 = .ok (.bipush 60, 2) := by decide +kernel
theorem dX12_tape_27 : decode cX12_tape 27 = .ok (.if_icmp .le 6, 3) := by decide +kernel
theorem dX12_tape_30 : decode cX12_tape 30 = .ok (.bipush (-2), 2) := by decide +kernel
theorem dX12_tape_32 : decode cX12_tape 32 = .ok (.ireturn, 1) := by decide +kernel
theorem dX12_tape_33 : decode cX12_tape 33 = .ok (.iload_n 2, 1) := by decide +kernel
theorem dX12_tape_34 : decode cX12_tape 34 = .ok (.ifCond .lt 10, 3) := by decide +kernel
theorem dX12_tape_37 : decode cX12_tape 37 = .ok (.iload_n 3, 1) := by decide +kernel
theorem dX12_tape_38 : decode cX12_tape 38 = .ok (.ifCond .ge 6, 3) := by decide +kernel
theorem dX12_tape_41 : decode cX12_tape 41 = .ok (.bipush (-14), 2) := by decide +kernel
theorem dX12_tape_43 : decode cX12_tape 43 = .ok (.ireturn, 1) := by decide +kernel
theorem dX12_tape_44 : decode cX12_tape 44 = .ok (.aload_n 0, 1) := by decide +kernel
theorem dX12_tape_45 : decode cX12_tape 45 = .ok (.getfield 191, 3) := by decide +kernel
theorem dX12_tape_48 : decode cX12_tape 48 = .ok (.iload_n 1, 1) := by decide +kernel
theorem dX12_tape_49 : decode cX12_tape 49 = .ok (.iload_n 2, 1) := by decide +kernel
theorem dX12_tape_50 : decode cX12_tape 50 = .ok (.iastore, 1) := by decide +kernel
theorem dX12_tape_51 : decode cX12_tape 51 = .ok (.aload_n 0, 1) := by decide +kernel
theorem dX12_tape_52 : decode cX12_tape 52 = .ok (.getfield 194, 3) := by decide +kernel
theorem dX12_tape_55 : decode cX12_tape 55 = .ok (.iload_n 1, 1) := by decide +kernel
theorem dX12_tape_56 : decode cX12_tape 56 = .ok (.iload_n 2, 1) := by decide +kernel
theorem dX12_tape_57 : decode cX12_tape 57 = .ok (.ifCond .ge 7, 3) := by decide +kernel
theorem dX12_tape_60 : decode cX12_tape 60 = .ok (.iconst 0, 1) := by decide +kernel
theorem dX12_tape_61 : decode cX12_tape 61 = .ok (.goto 4, 3) := by decide +kernel
theorem dX12_tape_64 : decode cX12_tape 64 = .ok (.iload_n 3, 1) := by decide +kernel
theorem dX12_tape_65 : decode cX12_tape 65 = .ok (.iastore, 1) := by decide +kernel
theorem dX12_tape_66 : decode cX12_tape 66 = .ok (.iconst 0, 1) := by decide +kernel
theorem dX12_tape_67 : decode cX12_tape 67 = .ok (.istore 4, 2) := by decide +kernel
theorem dX12_tape_69 : decode cX12_tape 69 = .ok (.iload 4, 2) := by decide +kernel
theorem dX12_tape_71 : decode cX12_tape 71 = .ok (.bipush 60, 2) := by decide +kernel
theorem dX12_tape_73 : decode cX12_tape 73 = .ok (.if_icmp .ge 22, 3) := by decide +kernel
theorem dX12_tape_76 : decode cX12_tape 76 = .ok (.aload_n 0, 1) := by decide +kernel
theorem dX12_tape_77 : decode cX12_tape 77 = .ok (.getfield 197, 3) := by decide +kernel
theorem dX12_tape_80 : decode cX12_tape 80 = .ok (.bipush 60, 2) := by decide +kernel
theorem dX12_tape_82 : decode cX12_tape 82 = .ok (.iload_n 1, 1) := by decide +kernel
theorem dX12_tape_83 : decode cX12_tape 83 = .ok (.imul, 1) := by decide +kernel
theorem dX12_tape_84 : decode cX12_tape 84 = .ok (.iload 4, 2) := by decide +kernel
theorem dX12_tape_86 : decode cX12_tape 86 = .ok (.iadd, 1) := by decide +kernel
theorem dX12_tape_87 : decode cX12_tape 87 = .ok (.lconst 0, 1) := by decide +kernel
theorem dX12_tape_88 : decode cX12_tape 88 = .ok (.lastore, 1) := by decide +kernel
theorem dX12_tape_89 : decode cX12_tape 89 = .ok (.iinc 4 1, 3) := by decide +kernel
theorem dX12_tape_92 : decode cX12_tape 92 = .ok (.goto (-23), 3) := by decide +kernel
theorem dX12_tape_95 : decode cX12_tape 95 = .ok (.iconst 1, 1) := by decide +kernel
theorem dX12_tape_96 : decode cX12_tape 96 = .ok (.ireturn, 1) := by decide +kernel
theorem dX12_narrow_0 : decode cX12_narrow 0 = .ok (.iload_n 1, 1) := by decide +kernel
theorem dX12_narrow_1 : decode cX12_narrow 1 = .ok (.ifCond .ne 10, 3) := by decide +kernel
theorem dX12_narrow_4 : decode cX12_narrow 4 = .ok (.lload_n 2, 1) := by decide +kernel
theorem dX12_narrow_5 : decode cX12_narrow 5 = .ok (.l2i, 1) := by decide +kernel
theorem dX12_narrow_6 : decode cX12_narrow 6 = .ok (.i2b, 1) := by decide +kernel
theorem dX12_narrow_7 : decode cX12_narrow 7 = .ok (.i2l, 1) := by decide +kernel
theorem dX12_narrow_8 : decode cX12_narrow 8 = .ok (.goto 46, 3) := by decide +kernel
theorem dX12_narrow_11 : decode cX12_narrow 11 = .ok (.iload_n 1, 1) := by decide +kernel
theorem dX12_narrow_12 : decode cX12_narrow 12 = .ok (.iconst 1, 1) := by decide +kernel
theorem dX12_narrow_13 : decode cX12_narrow 13 = .ok (.if_icmp .ne 10, 3) := by decide +kernel
theorem dX12_narrow_16 : decode cX12_narrow 16 = .ok (.lload_n 2, 1) := by decide +kernel
theorem dX12_narrow_17 : decode cX12_narrow 17 = .ok (.l2i, 1) := by decide +kernel
theorem dX12_narrow_18 : decode cX12_narrow 18 = .ok (.i2s, 1) := by decide +kernel
theorem dX12_narrow_19 : decode cX12_narrow 19 = .ok (.i2l, 1) := by decide +kernel
theorem dX12_narrow_20 : decode cX12_narrow 20 = .ok (.goto 34, 3) := by decide +kernel
theorem dX12_narrow_23 : decode cX12_narrow 23 = .ok (.iload_n 1, 1) := by decide +kernel
theorem dX12_narrow_24 : decode cX12_narrow 24 = .ok (.iconst 2, 1) := by decide +kernel
theorem dX12_narrow_25 : decode cX12_narrow 25 = .ok (.if_icmp .ne 9, 3) := by decide +kernel
theorem dX12_narrow_28 : decode cX12_narrow 28 = .ok (.lload_n 2, 1) := by decide +kernel
theorem dX12_narrow_29 : decode cX12_narrow 29 = .ok (.l2i, 1) := by decide +kernel
theorem dX12_narrow_30 : decode cX12_narrow 30 = .ok (.i2l, 1) := by decide +kernel
theorem dX12_narrow_31 : decode cX12_narrow 31 = .ok (.goto 23, 3) := by decide +kernel
theorem dX12_narrow_34 : decode cX12_narrow 34 = .ok (.iload_n 1, 1) := by decide +kernel
theorem dX12_narrow_35 : decode cX12_narrow 35 = .ok (.iconst 4, 1) := by decide +kernel
theorem dX12_narrow_36 : decode cX12_narrow 36 = .ok (.if_icmp .ne 17, 3) := by decide +kernel
theorem dX12_narrow_39 : decode cX12_narrow 39 = .ok (.lload_n 2, 1) := by decide +kernel
theorem dX12_narrow_40 : decode cX12_narrow 40 = .ok (.lconst 0, 1) := by decide +kernel
theorem dX12_narrow_41 : decode cX12_narrow 41 = .ok (.lcmp, 1) := by decide +kernel
theorem dX12_narrow_42 : decode cX12_narrow 42 = .ok (.ifCond .eq 7, 3) := by decide +kernel
theorem dX12_narrow_45 : decode cX12_narrow 45 = .ok (.lconst 1, 1) := by decide +kernel
theorem dX12_narrow_46 : decode cX12_narrow 46 = .ok (.goto 8, 3) := by decide +kernel
theorem dX12_narrow_49 : decode cX12_narrow 49 = .ok (.lconst 0, 1) := by decide +kernel
theorem dX12_narrow_50 : decode cX12_narrow 50 = .ok (.goto 4, 3) := by decide +kernel
theorem dX12_narrow_53 : decode cX12_narrow 53 = .ok (.lload_n 2, 1) := by decide +kernel
theorem dX12_narrow_54 : decode cX12_narrow 54 = .ok (.lreturn, 1) := by decide +kernel
set_option maxRecDepth 20000 in
theorem ggX12_item_X12_isTape : GoodIn wsX12_item wsX12_isTape := goodIn_r _ [8, 9, 10, 11, 7, 12] (by decide +kernel) (by decide +kernel)
set_option maxRecDepth 20000 in
theorem gX12_item_X12_isTape : GoodIn wsX12_item (wsV RX12 343 RX12 yX12_isTape wsX12_isTape) := goodIn_app (goodIn_of _ (by decide +kernel)) ggX12_item_X12_isTape
set_option maxRecDepth 20000 in
theorem ggX12_item_X12_in : GoodIn wsX12_item wsX12_in := goodIn_r _ [12] (by decide +kernel) (by decide +kernel)
set_option maxRecDepth 20000 in
theorem gX12_item_X12_in : GoodIn wsX12_item (wsV RX12 207 RX12 yX12_in wsX12_in) := goodIn_app (goodIn_of _ (by decide +kernel)) ggX12_item_X12_in
set_option maxRecDepth 20000 in
theorem ggX12_item_X12_narrow : GoodIn wsX12_item wsX12_narrow := goodIn_r _ [16] (by decide +kernel) (by decide +kernel)
set_option maxRecDepth 20000 in
theorem gX12_item_X12_narrow : GoodIn wsX12_item (wsV RX12 371 RX12 yX12_narrow wsX12_narrow) := goodIn_app (goodIn_of _ (by decide +kernel)) ggX12_item_X12_narrow
theorem dX12_item_0 : decode cX12_item 0 = .ok (.aload_n 0, 1) := by decide +kernel
theorem dX12_item_1 : decode cX12_item 1 = .ok (.iload_n 1, 1) := by decide +kernel
theorem dX12_item_2 : decode cX12_item 2 = .ok (.invokevirtual 343, 3) := by decide +kernel
theorem dX12_item_5 : decode cX12_item 5 = .ok (.ifCond .ne 5, 3) := by decide +kernel
theorem dX12_item_8 : decode cX12_item 8 = .ok (.iconst (-1), 1) := by decide +kernel
theorem dX12_item_9 : decode cX12_item 9 = .ok (.ireturn, 1) := by decide +kernel
theorem dX12_item_10 : decode cX12_item 10 = .ok (.aload_n 0, 1) := by decide +kernel
theorem dX12_item_11 : decode cX12_item 11 = .ok (.getfield 191, 3) := by decide +kernel
theorem dX12_item_14 : decode cX12_item 14 = .ok (.iload_n 1, 1) := by decide +kernel
theorem dX12_item_15 : decode cX12_item 15 = .ok (.iaload, 1) := by decide +kernel
theorem dX12_item_16 : decode cX12_item 16 = .ok (.ifCond .ge 6, 3) := by decide +kernel
theorem dX12_item_19 : decode cX12_item 19 = .ok (.bipush (-11), 2) := by decide +kernel
theorem dX12_item_21 : decode cX12_item 21 = .ok (.ireturn, 1) := by decide +kernel
theorem dX12_item_22 : decode cX12_item 22 = .ok (.aload_n 0, 1) := by decide +kernel
theorem dX12_item_23 : decode cX12_item 23 = .ok (.iload_n 2, 1) := by decide +kernel
theorem dX12_item_24 : decode cX12_item 24 = .ok (.iconst 0, 1) := by decide +kernel
theorem dX12_item_25 : decode cX12_item 25 = .ok (.aload_n 0, 1) := by decide +kernel
theorem dX12_item_26 : decode cX12_item 26 = .ok (.getfield 194, 3) := by decide +kernel
theorem dX12_item_29 : decode cX12_item 29 = .ok (.iload_n 1, 1) := by decide +kernel
theorem dX12_item_30 : decode cX12_item 30 = .ok (.iaload, 1) := by decide +kernel
theorem dX12_item_31 : decode cX12_item 31 = .ok (.iconst 1, 1) := by decide +kernel
theorem dX12_item_32 : decode cX12_item 32 = .ok (.isub, 1) := by decide +kernel
theorem dX12_item_33 : decode cX12_item 33 = .ok (.invokevirtual 207, 3) := by decide +kernel
theorem dX12_item_36 : decode cX12_item 36 = .ok (.ifCond .ne 6, 3) := by decide +kernel
theorem dX12_item_39 : decode cX12_item 39 = .ok (.bipush (-13), 2) := by decide +kernel
theorem dX12_item_41 : decode cX12_item 41 = .ok (.ireturn, 1) := by decide +kernel
theorem dX12_item_42 : decode cX12_item 42 = .ok (.aload_n 0, 1) := by decide +kernel
theorem dX12_item_43 : decode cX12_item 43 = .ok (.getfield 197, 3) := by decide +kernel
theorem dX12_item_46 : decode cX12_item 46 = .ok (.bipush 60, 2) := by decide +kernel
theorem dX12_item_48 : decode cX12_item 48 = .ok (.iload_n 1, 1) := by decide +kernel
theorem dX12_item_49 : decode cX12_item 49 = .ok (.imul, 1) := by decide +kernel
theorem dX12_item_50 : decode cX12_item 50 = .ok (.iload_n 2, 1) := by decide +kernel
theorem dX12_item_51 : decode cX12_item 51 = .ok (.iadd, 1) := by decide +kernel
theorem dX12_item_52 : decode cX12_item 52 = .ok (.aload_n 0, 1) := by decide +kernel
theorem dX12_item_53 : decode cX12_item 53 = .ok (.aload_n 0, 1) := by decide +kernel
theorem dX12_item_54 : decode cX12_item 54 = .ok (.getfield 191, 3) := by decide +kernel
theorem dX12_item_57 : decode cX12_item 57 = .ok (.iload_n 1, 1) := by decide +kernel
theorem dX12_item_58 : decode cX12_item 58 = .ok (.iaload, 1) := by decide +kernel
theorem dX12_item_59 : decode cX12_item 59 = .ok (.lload_n 3, 1) := by decide +kernel
theorem dX12_item_60 : decode cX12_item 60 = .ok (.invokevirtual 371, 3) := by decide +kernel
theorem dX12_item_63 : decode cX12_item 63 = .ok (.lastore, 1) := by decide +kernel
theorem dX12_item_64 : decode cX12_item 64 = .ok (.iconst 1, 1) := by decide +kernel
theorem dX12_item_65 : decode cX12_item 65 = .ok (.ireturn, 1) := by decide +kernel
set_option maxRecDepth 20000 in
theorem ggX12_read_X12_isTape : GoodIn wsX12_read wsX12_isTape := goodIn_r _ [9, 10, 11, 12, 8, 13] (by decide +kernel) (by decide +kernel)
set_option maxRecDepth 20000 in
theorem gX12_read_X12_isTape : GoodIn wsX12_read (wsV RX12 343 RX12 yX12_isTape wsX12_isTape) := goodIn_app (goodIn_of _ (by decide +kernel)) ggX12_read_X12_isTape
set_option maxRecDepth 20000 in
theorem ggX12_read_X12_in : GoodIn wsX12_read wsX12_in := goodIn_r _ [13] (by decide +kernel) (by decide +kernel)
set_option maxRecDepth 20000 in
theorem gX12_read_X12_in : GoodIn wsX12_read (wsV RX12 207 RX12 yX12_in wsX12_in) := goodIn_app (goodIn_of _ (by decide +kernel)) ggX12_read_X12_in
theorem dX12_read_0 : decode cX12_read 0 = .ok (.aload_n 0, 1) := by decide +kernel
theorem dX12_read_1 : decode cX12_read 1 = .ok (.iload_n 1, 1) := by decide +kernel
theorem dX12_read_2 : decode cX12_read 2 = .ok (.invokevirtual 343, 3) := by decide +kernel
theorem dX12_read_5 : decode cX12_read 5 = .ok (.ifCond .eq 29, 3) := by decide +kernel
theorem dX12_read_8 : decode cX12_read 8 = .ok (.aload_n 0, 1) := by decide +kernel
theorem dX12_read_9 : decode cX12_read 9 = .ok (.getfield 191, 3) := by decide +kernel
theorem dX12_read_12 : decode cX12_read 12 = .ok (.iload_n 1, 1) := by decide +kernel
theorem dX12_read_13 : decode cX12_read 13 = .ok (.iaload, 1) := by decide +kernel
theorem dX12_read_14 : decode cX12_read 14 = .ok (.ifCond .lt 20, 3) := by decide +kernel
theorem dX12_read_17 : decode cX12_read 17 = .ok (.aload_n 0, 1) := by decide +kernel
theorem dX12_read_18 : decode cX12_read 18 = .ok (.iload_n 2, 1) := by decide +kernel
theorem dX12_read_19 : decode cX12_read 19 = .ok (.iconst 0, 1) := by decide +kernel
theorem dX12_read_20 : decode cX12_read 20 = .ok (.aload_n 0, 1) := by decide +kernel
theorem dX12_read_21 : decode cX12_read 21 = .ok (.getfield 194, 3) := by decide +kernel
theorem dX12_read_24 : decode cX12_read 24 = .ok (.iload_n 1, 1) := by decide +kernel
theorem dX12_read_25 : decode cX12_read 25 = .ok (.iaload, 1) := by decide +kernel
theorem dX12_read_26 : decode cX12_read 26 = .ok (.iconst 1, 1) := by decide +kernel
theorem dX12_read_27 : decode cX12_read 27 = .ok (.isub, 1) := by decide +kernel
theorem dX12_read_28 : decode cX12_read 28 = .ok (.invokevirtual 207, 3) := by decide +kernel
theorem dX12_read_31 : decode cX12_read 31 = .ok (.ifCond .ne 9, 3) := by decide +kernel
theorem dX12_read_34 : decode cX12_read 34 = .ok (.ldc2_w 321, 3) := by decide +kernel
theorem dX12_read_37 : decode cX12_read 37 = .ok (.goto 14, 3) := by decide +kernel
theorem dX12_read_40 : decode cX12_read 40 = .ok (.aload_n 0, 1) := by decide +kernel
theorem dX12_read_41 : decode cX12_read 41 = .ok (.getfield 197, 3) := by decide +kernel
theorem dX12_read_44 : decode cX12_read 44 = .ok (.bipush 60, 2) := by decide +kernel
theorem dX12_read_46 : decode cX12_read 46 = .ok (.iload_n 1, 1) := by decide +kernel
theorem dX12_read_47 : decode cX12_read 47 = .ok (.imul, 1) := by decide +kernel
theorem dX12_read_48 : decode cX12_read 48 = .ok (.iload_n 2, 1) := by decide +kernel
theorem dX12_read_49 : decode cX12_read 49 = .ok (.iadd, 1) := by decide +kernel
theorem dX12_read_50 : decode cX12_read 50 = .ok (.laload, 1) := by decide +kernel
theorem dX12_read_51 : decode cX12_read 51 = .ok (.lreturn, 1) := by decide +kernel
set_option maxRecDepth 20000 in
theorem ggX12_shift_X12_isTape : GoodIn wsX12_shift wsX12_isTape := goodIn_r _ [9, 10, 11, 12, 8, 13] (by decide +kernel) (by decide +kernel)
set_option maxRecDepth 20000 in
theorem gX12_shift_X12_isTape : GoodIn wsX12_shift (wsV RX12 343 RX12 yX12_isTape wsX12_isTape) := goodIn_app (goodIn_of _ (by decide +kernel)) ggX12_shift_X12_isTape
theorem dX12_shift_0 : decode cX12_shift 0 = .ok (.aload_n 0, 1) := by decide +kernel
theorem dX12_shift_1 : decode cX12_shift 1 = .ok (.iload_n 1, 1) := by decide +kernel
theorem dX12_shift_2 : decode cX12_shift 2 = .ok (.invokevirtual 343, 3) := by decide +kernel
theorem dX12_shift_5 : decode cX12_shift 5 = .ok (.ifCond .eq 11, 3) := by decide +kernel
theorem dX12_shift_8 : decode cX12_shift 8 = .ok (.aload_n 0, 1) := by decide +kernel
theorem dX12_shift_9 : decode cX12_shift 9 = .ok (.iload_n 3, 1) := by decide +kernel
theorem dX12_shift_10 : decode cX12_shift 10 = .ok (.invokevirtual 343, 3) := by decide +kernel
theorem dX12_shift_13 : decode cX12_shift 13 = .ok (.ifCond .ne 5, 3) := by decide +kernel
theorem dX12_shift_16 : decode cX12_shift 16 = .ok (.iconst (-1), 1) := by decide +kernel
theorem dX12_shift_17 : decode cX12_shift 17 = .ok (.ireturn, 1) := by decide +kernel
theorem dX12_shift_18 : decode cX12_shift 18 = .ok (.aload_n 0, 1) := by decide +kernel
theorem dX12_shift_19 : decode cX12_shift 19 = .ok (.getfield 191, 3) := by decide +kernel
theorem dX12_shift_22 : decode cX12_shift 22 = .ok (.iload_n 1, 1) := by decide +kernel
theorem dX12_shift_23 : decode cX12_shift 23 = .ok (.iaload, 1) := by decide +kernel
theorem dX12_shift_24 : decode cX12_shift 24 = .ok (.ifCond .lt 12, 3) := by decide +kernel
theorem dX12_shift_27 : decode cX12_shift 27 = .ok (.aload_n 0, 1) := by decide +kernel
theorem dX12_shift_28 : decode cX12_shift 28 = .ok (.getfield 191, 3) := by decide +kernel
theorem dX12_shift_31 : decode cX12_shift 31 = .ok (.iload_n 3, 1) := by decide +kernel
theorem dX12_shift_32 : decode cX12_shift 32 = .ok (.iaload, 1) := by decide +kernel
theorem dX12_shift_33 : decode cX12_shift 33 = .ok (.ifCond .ge 6, 3) := by decide +kernel
theorem dX12_shift_36 : decode cX12_shift 36 = .ok (.bipush (-11), 2) := by decide +kernel
theorem dX12_shift_38 : decode cX12_shift 38 = .ok (.ireturn, 1) := by decide +kernel
theorem dX12_shift_39 : decode cX12_shift 39 = .ok (.aload_n 0, 1) := by decide +kernel
theorem dX12_shift_40 : decode cX12_shift 40 = .ok (.getfield 191, 3) := by decide +kernel
theorem dX12_shift_43 : decode cX12_shift 43 = .ok (.iload_n 1, 1) := by decide +kernel
theorem dX12_shift_44 : decode cX12_shift 44 = .ok (.iaload, 1) := by decide +kernel
theorem dX12_shift_45 : decode cX12_shift 45 = .ok (.aload_n 0, 1) := by decide +kernel
theorem dX12_shift_46 : decode cX12_shift 46 = .ok (.getfield 191, 3) := by decide +kernel
theorem dX12_shift_49 : decode cX12_shift 49 = .ok (.iload_n 3, 1) := by decide +kernel
theorem dX12_shift_50 : decode cX12_shift 50 = .ok (.iaload, 1) := by decide +kernel
theorem dX12_shift_51 : decode cX12_shift 51 = .ok (.if_icmp .eq 6, 3) := by decide +kernel
theorem dX12_shift_54 : decode cX12_shift 54 = .ok (.bipush (-12), 2) := by decide +kernel
theorem dX12_shift_56 : decode cX12_shift 56 = .ok (.ireturn, 1) := by decide +kernel
theorem dX12_shift_57 : decode cX12_shift 57 = .ok (.iload 5, 2) := by decide +kernel
theorem dX12_shift_59 : decode cX12_shift 59 = .ok (.ifCond .lt 39, 3) := by decide +kernel
theorem dX12_shift_62 : decode cX12_shift 62 = .ok (.iload_n 2, 1) := by decide +kernel
theorem dX12_shift_63 : decode cX12_shift 63 = .ok (.ifCond .lt 35, 3) := by decide +kernel
theorem dX12_shift_66 : decode cX12_shift 66 = .ok (.iload 4, 2) := by decide +kernel
theorem dX12_shift_68 : decode cX12_shift 68 = .ok (.ifCond .lt 30, 3) := by decide +kernel
theorem dX12_shift_71 : decode cX12_shift 71 = .ok (.iload_n 2, 1) := by decide +kernel
theorem dX12_shift_72 : decode cX12_shift 72 = .ok (.aload_n 0, 1) := by decide +kernel
theorem dX12_shift_73 : decode cX12_shift 73 = .ok (.getfield 194, 3) := by decide +kernel
theorem dX12_shift_76 : decode cX12_shift 76 = .ok (.iload_n 1, 1) := by decide +kernel
theorem dX12_shift_77 : decode cX12_shift 77 = .ok (.iaload, 1) := by decide +kernel
theorem dX12_shift_78 : decode cX12_shift 78 = .ok (.iload 5, 2) := by decide +kernel
theorem dX12_shift_80 : decode cX12_shift 80 = .ok (.isub, 1) := by decide +kernel
theorem dX12_shift_81 : decode cX12_shift 81 = .ok (.if_icmp .gt 17, 3) := by decide +kernel
theorem dX12_shift_84 : decode cX12_shift 84 = .ok (.iload 4, 2) := by decide +kernel
theorem dX12_shift_86 : decode cX12_shift 86 = .ok (.aload_n 0, 1) := by decide +kernel
theorem dX12_shift_87 : decode cX12_shift 87 = .ok (.getfield 194, 3) := by decide +kernel
theorem dX12_shift_90 : decode cX12_shift 90 = .ok (.iload_n 3, 1) := by decide +kernel
theorem dX12_shift_91 : decode cX12_shift 91 = .ok (.iaload, 1) := by decide +kernel
theorem dX12_shift_92 : decode cX12_shift 92 = .ok (.iload 5, 2) := by decide +kernel
theorem dX12_shift_94 : decode cX12_shift 94 = .ok (.isub, 1) := by decide +kernel
theorem dX12_shift_95 : decode cX12_shift 95 = .ok (.if_icmp .le 6, 3) := by decide +kernel
theorem dX12_shift_98 : decode cX12_shift 98 = .ok (.bipush (-13), 2) := by decide +kernel
theorem dX12_shift_100 : decode cX12_shift 100 = .ok (.ireturn, 1) := by decide +kernel
theorem dX12_shift_101 : decode cX12_shift 101 = .ok (.iconst 0, 1) := by decide +kernel
theorem dX12_shift_102 : decode cX12_shift 102 = .ok (.istore 6, 2) := by decide +kernel
theorem dX12_shift_104 : decode cX12_shift 104 = .ok (.iload 6, 2) := by decide +kernel
theorem dX12_shift_106 : decode cX12_shift 106 = .ok (.iload 5, 2) := by decide +kernel
theorem dX12_shift_108 : decode cX12_shift 108 = .ok (.if_icmp .ge 30, 3) := by decide +kernel
theorem dX12_shift_111 : decode cX12_shift 111 = .ok (.aload_n 0, 1) := by decide +kernel
theorem dX12_shift_112 : decode cX12_shift 112 = .ok (.getfield 200, 3) := by decide +kernel
theorem dX12_shift_115 : decode cX12_shift 115 = .ok (.iload 6, 2) := by decide +kernel
theorem dX12_shift_117 : decode cX12_shift 117 = .ok (.aload_n 0, 1) := by decide +kernel
theorem dX12_shift_118 : decode cX12_shift 118 = .ok (.getfield 197, 3) := by decide +kernel
theorem dX12_shift_121 : decode cX12_shift 121 = .ok (.bipush 60, 2) := by decide +kernel
theorem dX12_shift_123 : decode cX12_shift 123 = .ok (.iload_n 1, 1) := by decide +kernel
theorem dX12_shift_124 : decode cX12_shift 124 = .ok (.imul, 1) := by decide +kernel
theorem dX12_shift_125 : decode cX12_shift 125 = .ok (.iload_n 2, 1) := by decide +kernel
theorem dX12_shift_126 : decode cX12_shift 126 = .ok (.iadd, 1) := by decide +kernel
theorem dX12_shift_127 : decode cX12_shift 127 = .ok (.iload 6, 2) := by decide +kernel
theorem dX12_shift_129 : decode cX12_shift 129 = .ok (.iadd, 1) := by decide +kernel
theorem dX12_shift_130 : decode cX12_shift 130 = .ok (.laload, 1) := by decide +kernel
theorem dX12_shift_131 : decode cX12_shift 131 = .ok (.lastore, 1) := by decide +kernel
theorem dX12_shift_132 : decode cX12_shift 132 = .ok (.iinc 6 1, 3) := by decide +kernel
theorem dX12_shift_135 : decode cX12_shift 135 = .ok (.goto (-31), 3) := by decide +kernel
theorem dX12_shift_138 : decode cX12_shift 138 = .ok (.iconst 0, 1) := by decide +kernel
theorem dX12_shift_139 : decode cX12_shift 139 = .ok (.istore 6, 2) := by decide +kernel
theorem dX12_shift_141 : decode cX12_shift 141 = .ok (.iload 6, 2) := by decide +kernel
theorem dX12_shift_143 : decode cX12_shift 143 = .ok (.iload 5, 2) := by decide +kernel
theorem dX12_shift_145 : decode cX12_shift 145 = .ok (.if_icmp .ge 31, 3) := by decide +kernel
theorem dX12_shift_148 : decode cX12_shift 148 = .ok (.aload_n 0, 1) := by decide +kernel
theorem dX12_shift_149 : decode cX12_shift 149 = .ok (.getfield 197, 3) := by decide +kernel
theorem dX12_shift_152 : decode cX12_shift 152 = .ok (.bipush 60, 2) := by decide +kernel
theorem dX12_shift_154 : decode cX12_shift 154 = .ok (.iload_n 3, 1) := by decide +kernel
theorem dX12_shift_155 : decode cX12_shift 155 = .ok (.imul, 1) := by decide +kernel
theorem dX12_shift_156 : decode cX12_shift 156 = .ok (.iload 4, 2) := by decide +kernel
theorem dX12_shift_158 : decode cX12_shift 158 = .ok (.iadd, 1) := by decide +kernel
theorem dX12_shift_159 : decode cX12_shift 159 = .ok (.iload 6, 2) := by decide +kernel
theorem dX12_shift_161 : decode cX12_shift 161 = .ok (.iadd, 1) := by decide +kernel
theorem dX12_shift_162 : decode cX12_shift 162 = .ok (.aload_n 0, 1) := by decide +kernel
theorem dX12_shift_163 : decode cX12_shift 163 = .ok (.getfield 200, 3) := by decide +kernel
theorem dX12_shift_166 : decode cX12_shift 166 = .ok (.iload 6, 2) := by decide +kernel
theorem dX12_shift_168 : decode cX12_shift 168 = .ok (.laload, 1) := by decide +kernel
theorem dX12_shift_169 : decode cX12_shift 169 = .ok (.lastore, 1) := by decide +kernel
theorem dX12_shift_170 : decode cX12_shift 170 = .ok (.iinc 6 1, 3) := by decide +kernel
theorem dX12_shift_173 : decode cX12_shift 173 = .ok (.goto (-32), 3) := by decide +kernel
theorem dX12_shift_176 : decode cX12_shift 176 = .ok (.iload 5, 2) := by decide +kernel
theorem dX12_shift_178 : decode cX12_shift 178 = .ok (.ireturn, 1) := by decide +kernel
end
section
/-! the reference's object: its state (int fields, int arrays, long arrays, by the slot of the field), its cells, its rows -/
abbrev mm_S : Type := (Nat → Int32) × (Nat → Nat → Int32) × (Nat → Nat → Int64)
def mm_up {α : Type} (f : Nat → α) (k : Nat) (v : α) : Nat → α := fun j => if j = k then v else f j
def mm_I (st : mm_S) (k : Nat) : Int32 := st.1 k
def mm_G (st : mm_S) (k i : Nat) : Int32 := st.2.1 k i
def mm_L (st : mm_S) (k i : Nat) : Int64 := st.2.2 k i
def mm_sI (st : mm_S) (k : Nat) (v : Int32) : mm_S := (mm_up st.1 k v, st.2)
def mm_sG (st : mm_S) (k i : Nat) (v : Int32) : mm_S := (st.1, mm_up st.2.1 k (upd (st.2.1 k) i v), st.2.2)
def mm_sL (st : mm_S) (k i : Nat) (v : Int64) : mm_S := (st.1, st.2.1, mm_up st.2.2 k (vp_updL (st.2.2 k) i v))
def mm_kds : List Nat := [0, 0, 0, 0, 1, 1, 1, 1, 0, 0, 0, 0, 0, 1, 1, 1, 1, 1, 1, 1, 1, 0, 0, 0, 1, 2, 3, 0, 3, 0, 1, 0, 0, 1, 1, 1, 1, 1, 0, 0, 0, 0, 0, 0, 0, 0, 0, 1, 1, 1, 1, 1, 1, 1, 1, 1, 1, 0, 1, 1, 1, 3, 3]
def mm_lns : List Nat := [0, 0, 0, 0, 6, 6, 6, 24, 0, 0, 0, 0, 0, 100, 6, 60, 60, 60, 60, 600, 101, 0, 0, 0, 13, 100, 90, 0, 90, 0, 8, 0, 0, 5, 5, 5, 8, 8, 0, 0, 0, 0, 0, 0, 0, 0, 0, 6, 6, 6, 24, 8, 5, 5, 5, 8, 8, 0, 20, 6, 6, 360, 60]
def mm_ar : List Nat := [4, 5, 6, 7, 13, 14, 15, 16, 17, 18, 19, 20, 24, 25, 26, 28, 30, 33, 34, 35, 36, 37, 47, 48, 49, 50, 51, 52, 53, 54, 55, 56, 58, 59, 60, 61, 62]
def mm_kd (k : Nat) : Nat := mm_kds.getD k 0
def mm_ln (k : Nat) : Nat := mm_lns.getD k 0
/-! functional code: what is left to be done, partly told -/
def fc_bn {α β γ : Type} (x : Option (α × β)) (k : α → β → Option γ) : Option γ := match x with
  | some q => k q.1 q.2
  | none => none
def fc_bv {β γ : Type} (x : Option β) (k : β → Option γ) : Option γ := match x with
  | some q => k q
  | none => none
def fc_nm {α γ : Type} (e : α) (k : α → γ) : γ := k e
def fc_gd {γ : Type} (b : Bool) (x : Option γ) : Option γ := match b with
  | true => x
  | false => none
def fc_ix (i : Int32) (n : Nat) : Bool := decide (0 ≤ i.toInt ∧ i.toInt < n)
def fc_zb (x : Int32) : Bool := decide (x = 0 ∨ x = 1)
def fc_nz (x : Int32) : Bool := decide (¬ x = 0)
def fc_nzl (x : Int64) : Bool := decide (¬ x = 0)
def fc_lp {α β : Type} (F : (α → Option β) → α → Option β) : Nat → α → Option β
  | 0, _ => none
  | n + 1, a => F (fc_lp F n) a
theorem fc_no {α : Type} {v : α} {P : Prop} (h : (none : Option α) = some v) : P := by cases h
theorem fc_of_bn {α β γ : Type} {x : Option (α × β)} {k : α → β → Option γ} {v : γ} (h : fc_bn x k = some v) : ∃ a b, x = some (a, b) ∧ k a b = some v := by
  cases x with
  | none => cases h
  | some q => exact ⟨q.1, q.2, rfl, h⟩
theorem fc_of_bv {β γ : Type} {x : Option β} {k : β → Option γ} {v : γ} (h : fc_bv x k = some v) : ∃ b, x = some b ∧ k b = some v := by
  cases x with
  | none => cases h
  | some q => exact ⟨q, rfl, h⟩
theorem fc_of_nm {α γ : Type} {e : α} {k : α → γ} {v : γ} (h : fc_nm e k = v) (x : α) (hx : x = e) : k x = v := by
  subst hx
  exact h
theorem fc_of_gd {γ : Type} {b : Bool} {x : Option γ} {v : γ} (h : fc_gd b x = some v) : b = true ∧ x = some v := by
  cases b with
  | true => exact ⟨rfl, h⟩
  | false => cases h
theorem fc_of_t {γ : Type} {c : Prop} {_ : Decidable c} {a b : γ} {v : γ} (h : (if c then a else b) = v) (hc : c) : a = v := by rw [if_pos hc] at h; exact h
theorem fc_of_f {γ : Type} {c : Prop} {_ : Decidable c} {a b : γ} {v : γ} (h : (if c then a else b) = v) (hc : ¬ c) : b = v := by rw [if_neg hc] at h; exact h
theorem fc_of_r {α β : Type} {a c : α} {b d : β} (h : some (a, b) = some (c, d)) : a = c ∧ b = d := by cases h; exact ⟨rfl, rfl⟩
theorem fc_of_v {β : Type} {b d : β} (h : some b = some d) : b = d := by cases h; rfl
theorem fc_of_ix {i : Int32} {n : Nat} (h : fc_ix i n = true) : vp_in i n := vp_in_iff.mpr (of_decide_eq_true h)
theorem fc_of_nz {x : Int32} (h : fc_nz x = true) : ¬ x = 0 := of_decide_eq_true h
theorem fc_of_nzl {x : Int64} (h : fc_nzl x = true) : ¬ x = 0 := of_decide_eq_true h
theorem fc_of_zb {x : Int32} (h : fc_zb x = true) : narrow .boolean (.int x) = .int x := by
  rcases of_decide_eq_true h with rfl | rfl <;> rfl
/-! cells -/
def mm_val (ad : Nat → Nat) (st : mm_S) (k : Nat) : Value := if mm_kd k = 0 then .int (st.1 k) else .ref (ad k)
def mm_cell (cs : ClassId × ClassId × ClassId) (st : mm_S) (k : Nat) : va_E := if mm_kd k = 3 then .inl (cs.2.2, mm_ln k, .inr (.inl (st.2.2 k))) else if mm_kd k = 2 then .inl (cs.2.1, mm_ln k, .inl (st.2.1 k)) else .inl (cs.1, mm_ln k, .inl (st.2.1 k))
def mm_fs (ad : Nat → Nat) (st : mm_S) : List Value := (List.range 63).map (mm_val ad st)
def mm_w (o : Nat) (ad : Nat → Nat) (cs : ClassId × ClassId × ClassId) (st : mm_S) : va_W := (o, .inr (14, mm_fs ad st)) :: mm_ar.map (fun k => (ad k, mm_cell cs st k))
def mm_tys (cs : ClassId × ClassId × ClassId) : List (ClassId × FieldType) := [(cs.1, .int), (cs.2.1, .boolean), (cs.2.2, .long)]
theorem mm_mapset {α : Type} {l : List Nat} {f g : Nat → α} {q k : Nat} (hq : l[q]? = some k) (hn : l.Nodup) (h : ∀ j, j ≠ k → g j = f j) : (l.map f).set q (g k) = l.map g := by
  apply List.ext_getElem?
  intro i
  have hl := (List.getElem?_eq_some_iff.mp hq).1
  by_cases hi : i = q
  · subst hi
    rw [List.getElem?_set_self (by rw [List.length_map]; exact hl), List.getElem?_map, hq]
    rfl
  · rw [List.getElem?_set_ne (Ne.symm hi), List.getElem?_map, List.getElem?_map]
    cases hj : l[i]? with
    | none => rfl
    | some j =>
      have hne : j ≠ k := by
        intro e
        subst e
        have hi2 := (List.getElem?_eq_some_iff.mp hj).1
        exact hi ((List.getElem_inj hn).mp ((List.getElem?_eq_some_iff.mp hj).2.trans (List.getElem?_eq_some_iff.mp hq).2.symm))
      show some (f j) = some (g j)
      rw [h j hne]
theorem mm_ar_nd : mm_ar.Nodup := by decide +kernel
theorem mm_fs_get {ad : Nat → Nat} {st : mm_S} {k : Nat} (hk : k < 63) : (mm_fs ad st)[k]? = some (mm_val ad st k) := by
  unfold mm_fs
  rw [List.getElem?_map, List.getElem?_range hk]
  rfl
theorem mm_fs_set {ad : Nat → Nat} {st : mm_S} {k : Nat} (hk : k < 63) (h0 : mm_kd k = 0) (v : Int32) : (mm_fs ad st).set k (.int v) = mm_fs ad (mm_sI st k v) := by
  have h := mm_mapset (f := mm_val ad st) (g := mm_val ad (mm_sI st k v)) (q := k) (k := k) (List.getElem?_range hk) List.nodup_range (fun j hj => by
    unfold mm_val mm_sI mm_up
    simp [hj])
  have e : mm_val ad (mm_sI st k v) k = .int v := by
    unfold mm_val mm_sI mm_up
    simp [h0]
  rw [e] at h
  exact h
theorem mm_w_0 {o : Nat} {ad : Nat → Nat} {cs : ClassId × ClassId × ClassId} {st : mm_S} : (mm_w o ad cs st)[0]? = some (o, .inr (14, mm_fs ad st)) := rfl
theorem mm_w_at {o : Nat} {ad : Nat → Nat} {cs : ClassId × ClassId × ClassId} (st : mm_S) {k : Nat} (hk : k ∈ mm_ar) : ∃ q, mm_ar[q]? = some k ∧ (mm_w o ad cs st)[q + 1]? = some (ad k, mm_cell cs st k) := by
  obtain ⟨q, hq⟩ := List.getElem?_of_mem hk
  refine ⟨q, hq, ?_⟩
  show (mm_ar.map (fun k => (ad k, mm_cell cs st k)))[q]? = _
  rw [List.getElem?_map, hq]
  rfl
theorem mm_w_sI {o : Nat} {ad : Nat → Nat} {cs : ClassId × ClassId × ClassId} {st : mm_S} {k : Nat} (hk : k < 63) (h0 : mm_kd k = 0) (v : Int32) : (mm_w o ad cs st).set 0 (o, .inr (14, (mm_fs ad st).set k (.int v))) = mm_w o ad cs (mm_sI st k v) := by
  rw [mm_fs_set hk h0]
  rfl
theorem mm_w_set {o : Nat} {ad : Nat → Nat} {cs : ClassId × ClassId × ClassId} {st st' : mm_S} {k q : Nat} (hq : mm_ar[q]? = some k) (h1 : st'.1 = st.1) (h : ∀ j, j ≠ k → mm_cell cs st' j = mm_cell cs st j) : (mm_w o ad cs st).set (q + 1) (ad k, mm_cell cs st' k) = mm_w o ad cs st' := by
  have e := mm_mapset (f := fun k => (ad k, mm_cell cs st k)) (g := fun k => (ad k, mm_cell cs st' k)) hq mm_ar_nd (fun j hj => by dsimp only; rw [h j hj])
  have ef : mm_fs ad st' = mm_fs ad st := by
    unfold mm_fs
    refine List.map_congr_left fun k _ => ?_
    unfold mm_val
    rw [h1]
  show (o, _) :: (mm_ar.map (fun k => (ad k, mm_cell cs st k))).set q (ad k, mm_cell cs st' k) = mm_w o ad cs st'
  rw [e]
  unfold mm_w
  rw [ef]
theorem mm_cell_G {cs : ClassId × ClassId × ClassId} {st : mm_S} {k i : Nat} {v : Int32} (j : Nat) (h : j ≠ k) : mm_cell cs (mm_sG st k i v) j = mm_cell cs st j := by
  unfold mm_cell mm_sG mm_up
  simp [h]
theorem mm_cell_L {cs : ClassId × ClassId × ClassId} {st : mm_S} {k i : Nat} {v : Int64} (j : Nat) (h : j ≠ k) : mm_cell cs (mm_sL st k i v) j = mm_cell cs st j := by
  unfold mm_cell mm_sL mm_up
  simp [h]
theorem mm_cell_1 {cs : ClassId × ClassId × ClassId} {st : mm_S} {k : Nat} (h : mm_kd k = 1) : mm_cell cs st k = .inl (cs.1, mm_ln k, .inl (st.2.1 k)) := by
  unfold mm_cell
  simp [h]
theorem mm_cell_2 {cs : ClassId × ClassId × ClassId} {st : mm_S} {k : Nat} (h : mm_kd k = 2) : mm_cell cs st k = .inl (cs.2.1, mm_ln k, .inl (st.2.1 k)) := by
  unfold mm_cell
  simp [h]
theorem mm_cell_3 {cs : ClassId × ClassId × ClassId} {st : mm_S} {k : Nat} (h : mm_kd k = 3) : mm_cell cs st k = .inl (cs.2.2, mm_ln k, .inr (.inl (st.2.2 k))) := by
  unfold mm_cell
  simp [h]
theorem mm_T1 : ∀ k, k < 63 → (TX12 k).1 = "EclipsesKeptModel" := by decide +kernel
theorem mm_fin : ∀ k, k < 63 → mm_kd k = 0 → (TX12 k).2.2.2 = false := by decide +kernel
/-! what holds within a method of it -/
def mm_A (o : Nat) (ad : Nat → Nat) : Nat → Prop := fun q => q = o ∨ ∃ k, k ∈ mm_ar ∧ q = ad k
def mm_C (p : Program) (s : State) (m : MethodId) (args : Array Value) (meth : Method) (c : Code) (cc : ByteArray) (nL : Nat) (ret : Option FieldType) (ts : List Cond) (D : va_G) (cs : ClassId × ClassId × ClassId) : Prop :=
  p.tables.exec = Jvm.exec ∧ c.code = cc ∧ meth.sig.returnType = ret ∧ c.maxLocals = nL ∧ s.vm.findClass RX12 = some m.cls ∧ (∀ w ∈ ts, w.before args s = true) ∧ meth.locks = false ∧ va_K D vwCl (mm_tys cs) s
def mm_H (D : va_G) (o : Nat) (ad : Nat → Nat) (cs : ClassId × ClassId × ClassId) (H0 : Heap) (st : mm_S) (H : Heap) (locs : List Loc) : Prop :=
  va_P D vwCl (mm_w o ad cs st) H ∧ va_D (mm_A o ad) (mm_w o ad cs st) ∧ va_S (mm_A o ad) H0 H locs
def mm_U (D : va_G) (o : Nat) (ad : Nat → Nat) (cs : ClassId × ClassId × ClassId) (st : mm_S) (U : State) : Prop :=
  va_P D vwCl (mm_w o ad cs st) U.heap ∧ va_K D vwCl (mm_tys cs) U ∧ va_D (fun _ => True) (mm_w o ad cs st)
abbrev mm_Qi (D : va_G) (o : Nat) (ad : Nat → Nat) (cs : ClassId × ClassId × ClassId) (r : Int32) (st : mm_S) : Array Value → State → Outcome → State → Prop := va_Qi (fun (r' : Int32) (u : mm_S) => r' = r ∧ u = st) (mm_U D o ad cs) (mm_A o ad)
abbrev mm_Ql (D : va_G) (o : Nat) (ad : Nat → Nat) (cs : ClassId × ClassId × ClassId) (r : Int64) (st : mm_S) : Array Value → State → Outcome → State → Prop := va_Ql (fun (r' : Int64) (u : mm_S) => r' = r ∧ u = st) (mm_U D o ad cs) (mm_A o ad)
abbrev mm_Qv (D : va_G) (o : Nat) (ad : Nat → Nat) (cs : ClassId × ClassId × ClassId) (st : mm_S) : Array Value → State → Outcome → State → Prop := va_Qv (fun (u : mm_S) => u = st) (mm_U D o ad cs) (mm_A o ad)
abbrev mm_R (fr lo : Nat) : Room := { frames := fr, cells := 0, slots := 0, locals := lo }
def mm_Mi (l : Launch) (D : va_G) (o : Nat) (ad : Nat → Nat) (cs : ClassId × ClassId × ClassId) (y : MethodName) (ws : List Cond) (fr lo : Nat) (As : List Value) (st : mm_S) (x : Option (Int32 × mm_S)) : Prop :=
  ∀ r st', x = some (r, st') → Met l y ws (mm_R fr lo) (va_Pc (.ref o :: As) (mm_U D o ad cs st)) (mm_Qi D o ad cs r st') 0 0 (mm_A o ad)
def mm_Ml (l : Launch) (D : va_G) (o : Nat) (ad : Nat → Nat) (cs : ClassId × ClassId × ClassId) (y : MethodName) (ws : List Cond) (fr lo : Nat) (As : List Value) (st : mm_S) (x : Option (Int64 × mm_S)) : Prop :=
  ∀ r st', x = some (r, st') → Met l y ws (mm_R fr lo) (va_Pc (.ref o :: As) (mm_U D o ad cs st)) (mm_Ql D o ad cs r st') 0 0 (mm_A o ad)
def mm_Mv (l : Launch) (D : va_G) (o : Nat) (ad : Nat → Nat) (cs : ClassId × ClassId × ClassId) (y : MethodName) (ws : List Cond) (fr lo : Nat) (As : List Value) (st : mm_S) (x : Option mm_S) : Prop :=
  ∀ st', x = some st' → Met l y ws (mm_R fr lo) (va_Pc (.ref o :: As) (mm_U D o ad cs st)) (mm_Qv D o ad cs st') 0 0 (mm_A o ad)
theorem mm_D_A {o : Nat} {ad : Nat → Nat} {cs : ClassId × ClassId × ClassId} {st : mm_S} {B : Nat → Prop} (h : va_D B (mm_w o ad cs st)) : va_D (mm_A o ad) (mm_w o ad cs st) := by
  refine ⟨h.1, fun k q hq => ?_⟩
  rcases List.mem_cons.mp (List.mem_of_getElem? hq) with e | e
  · rw [e]; exact Or.inl rfl
  · obtain ⟨k, hk, e⟩ := List.mem_map.mp e
    rw [← e]
    exact Or.inr ⟨k, hk, rfl⟩
section MM
variable {p : Program} {l : Launch} {e : Env} {R : Room} {s : State} {m : MethodId} {args : Array Value} {below : List Frame} {meth : Method} {c : Code} {H H0 : Heap} {locs : List Loc} {cells slots : Nat} {Q : State → Prop}
variable {cc : ByteArray} {nL : Nat} {ret : Option FieldType} {ts : List Cond} {pc : Nat} {ls : Array Slot} {rest : List Value} {D : va_G} {o : Nat} {ad : Nat → Nat} {cs : ClassId × ClassId × ClassId} {st : mm_S}
theorem mm_gI (C : mm_C p s m args meth c cc nL ret ts D cs) (hM : mm_H D o ad cs H0 st H locs) (k : Nat) {index : Nat} (hdg : decode cc pc = .ok (.getfield index, 3)) (hk : k < 63) (h0 : mm_kd k = 0) (hin : ∀ w ∈ wsX120, w ∈ ts) (hl : Cond.fieldLink RX12 index "EclipsesKeptModel" (TX12 k).2.1 (TX12 k).2.2.1 ∈ ts)
    (kk : W p l e R s m args below meth c H locs cells slots Q (F0 m (pc + 3) ls (.int (mm_I st k) :: rest))) : W p l e R s m args below meth c H locs cells slots Q (F0 m pc ls (.ref o :: rest)) := by
  obtain ⟨hx, hb, -, -, hown, hts, -, hK⟩ := C
  have hv : (mm_fs ad st)[k]? = some (.int (mm_I st k)) := by
    rw [mm_fs_get hk]
    unfold mm_val mm_I
    rw [if_pos h0]
  exact va_get (C := RX12) (T := TX12) (N := 63) (ci := 14) hx hb hts hin hown hK hM.1 0 mm_w_0 rfl k hk (hts _ hl) (fun x h => by rw [mm_T1 k hk] at h; exact h) hv hdg kk
theorem mm_gA (C : mm_C p s m args meth c cc nL ret ts D cs) (hM : mm_H D o ad cs H0 st H locs) (k : Nat) {index : Nat} (hdg : decode cc pc = .ok (.getfield index, 3)) (hk : k < 63) (h0 : ¬ mm_kd k = 0) (hin : ∀ w ∈ wsX120, w ∈ ts) (hl : Cond.fieldLink RX12 index "EclipsesKeptModel" (TX12 k).2.1 (TX12 k).2.2.1 ∈ ts)
    (kk : W p l e R s m args below meth c H locs cells slots Q (F0 m (pc + 3) ls (.ref (ad k) :: rest))) : W p l e R s m args below meth c H locs cells slots Q (F0 m pc ls (.ref o :: rest)) := by
  obtain ⟨hx, hb, -, -, hown, hts, -, hK⟩ := C
  have hv : (mm_fs ad st)[k]? = some (.ref (ad k)) := by
    rw [mm_fs_get hk]
    unfold mm_val
    rw [if_neg h0]
  exact va_get (C := RX12) (T := TX12) (N := 63) (ci := 14) hx hb hts hin hown hK hM.1 0 mm_w_0 rfl k hk (hts _ hl) (fun x h => by rw [mm_T1 k hk] at h; exact h) hv hdg kk
theorem mm_pI (C : mm_C p s m args meth c cc nL ret ts D cs) (hM : mm_H D o ad cs H0 st H locs) (k : Nat) {index : Nat} {v : Int32} (hdg : decode cc pc = .ok (.putfield index, 3)) (hk : k < 63) (h0 : mm_kd k = 0) (hin : ∀ w ∈ wsX120, w ∈ ts) (hl : Cond.fieldLink RX12 index "EclipsesKeptModel" (TX12 k).2.1 (TX12 k).2.2.1 ∈ ts) (hn : narrow (tyX12 k) (.int v) = .int v) (hf : fits (tyX12 k) (.int v) = true)
    (kk : ∀ (st1 : mm_S) (H1 : Heap) (locs1 : List Loc), st1 = mm_sI st k v → mm_H D o ad cs H0 st1 H1 locs1 → W p l e R s m args below meth c H1 locs1 cells slots Q (F0 m (pc + 3) ls rest)) : W p l e R s m args below meth c H locs cells slots Q (F0 m pc ls (.int v :: .ref o :: rest)) := by
  obtain ⟨hx, hb, -, -, hown, hts, -, hK⟩ := C
  refine va_put (C := RX12) (T := TX12) (N := 63) (ci := 14) hx hb hts hin tyX12 tyX12_ok nmX12 hown hK hM.1 hM.2.1 hM.2.2 0 mm_w_0 rfl k hk (hts _ hl) (fun x h => by rw [mm_T1 k hk] at h; exact h) (mm_fin k hk h0) (tyX12_ok k hk) hn hf (by unfold mm_fs; rw [List.length_map, List.length_range]; exact hk) hdg (fun H1 locs1 hP hD hS => ?_)
  rw [mm_w_sI hk h0] at hP hD
  exact kk _ H1 locs1 rfl ⟨hP, hD, hS⟩
theorem mm_iald (C : mm_C p s m args meth c cc nL ret ts D cs) (hM : mm_H D o ad cs H0 st H locs) (k : Nat) {i : Int32} (hdg : decode cc pc = .ok (.iaload, 1)) (hk : k ∈ mm_ar) (h1 : mm_kd k = 1) (hin : vp_in i (mm_ln k))
    (kk : W p l e R s m args below meth c H locs cells slots Q (F0 m (pc + 1) ls (.int (mm_G st k i.toNatClampNeg) :: rest))) : W p l e R s m args below meth c H locs cells slots Q (F0 m pc ls (.int i :: .ref (ad k) :: rest)) := by
  obtain ⟨q, hq, ha⟩ := mm_w_at (o := o) (ad := ad) (cs := cs) st hk
  rw [mm_cell_1 h1] at ha
  exact va_iald C.1 C.2.1 C.2.2.2.2.2.2.2 hM.1 (q + 1) 0 ha rfl hin hdg kk
theorem mm_zald (C : mm_C p s m args meth c cc nL ret ts D cs) (hM : mm_H D o ad cs H0 st H locs) (k : Nat) {i : Int32} (hdg : decode cc pc = .ok (.baload, 1)) (hk : k ∈ mm_ar) (h1 : mm_kd k = 2) (hin : vp_in i (mm_ln k))
    (kk : W p l e R s m args below meth c H locs cells slots Q (F0 m (pc + 1) ls (.int (mm_G st k i.toNatClampNeg) :: rest))) : W p l e R s m args below meth c H locs cells slots Q (F0 m pc ls (.int i :: .ref (ad k) :: rest)) := by
  obtain ⟨q, hq, ha⟩ := mm_w_at (o := o) (ad := ad) (cs := cs) st hk
  rw [mm_cell_2 h1] at ha
  exact va_zald C.1 C.2.1 C.2.2.2.2.2.2.2 hM.1 (q + 1) 1 ha rfl hin hdg kk
theorem mm_lald (C : mm_C p s m args meth c cc nL ret ts D cs) (hM : mm_H D o ad cs H0 st H locs) (k : Nat) {i : Int32} (hdg : decode cc pc = .ok (.laload, 1)) (hk : k ∈ mm_ar) (h1 : mm_kd k = 3) (hin : vp_in i (mm_ln k))
    (kk : W p l e R s m args below meth c H locs cells slots Q (F0 m (pc + 1) ls (.long (mm_L st k i.toNatClampNeg) :: rest))) : W p l e R s m args below meth c H locs cells slots Q (F0 m pc ls (.int i :: .ref (ad k) :: rest)) := by
  obtain ⟨q, hq, ha⟩ := mm_w_at (o := o) (ad := ad) (cs := cs) st hk
  rw [mm_cell_3 h1] at ha
  exact va_lald C.1 C.2.1 C.2.2.2.2.2.2.2 hM.1 (q + 1) 2 ha rfl hin hdg kk
theorem mm_iast (C : mm_C p s m args meth c cc nL ret ts D cs) (hM : mm_H D o ad cs H0 st H locs) (k : Nat) {i v : Int32} (hdg : decode cc pc = .ok (.iastore, 1)) (hk : k ∈ mm_ar) (h1 : mm_kd k = 1) (hin : vp_in i (mm_ln k))
    (kk : ∀ (st1 : mm_S) (H1 : Heap) (locs1 : List Loc), st1 = mm_sG st k i.toNatClampNeg v → mm_H D o ad cs H0 st1 H1 locs1 → W p l e R s m args below meth c H1 locs1 cells slots Q (F0 m (pc + 1) ls rest)) : W p l e R s m args below meth c H locs cells slots Q (F0 m pc ls (.int v :: .int i :: .ref (ad k) :: rest)) := by
  obtain ⟨q, hq, ha⟩ := mm_w_at (o := o) (ad := ad) (cs := cs) st hk
  rw [mm_cell_1 h1] at ha
  refine va_iast C.1 C.2.1 C.2.2.2.2.2.2.2 hM.1 hM.2.1 hM.2.2 (q + 1) 0 ha rfl hin hdg (fun H1 locs1 hP hD hS => ?_)
  have e : (mm_w o ad cs st).set (q + 1) (ad k, .inl (cs.1, mm_ln k, .inl (upd (st.2.1 k) i.toNatClampNeg v))) = mm_w o ad cs (mm_sG st k i.toNatClampNeg v) := by
    have h2 := mm_w_set (o := o) (ad := ad) (cs := cs) (st := st) (st' := mm_sG st k i.toNatClampNeg v) hq rfl (fun j hj => mm_cell_G j hj)
    rw [mm_cell_1 h1] at h2
    rw [← h2]
    unfold mm_sG mm_up
    simp
  rw [e] at hP hD
  exact kk _ H1 locs1 rfl ⟨hP, hD, hS⟩
theorem mm_zast (C : mm_C p s m args meth c cc nL ret ts D cs) (hM : mm_H D o ad cs H0 st H locs) (k : Nat) {i v : Int32} (hdg : decode cc pc = .ok (.bastore, 1)) (hk : k ∈ mm_ar) (h1 : mm_kd k = 2) (hin : vp_in i (mm_ln k))
    (kk : ∀ (st1 : mm_S) (H1 : Heap) (locs1 : List Loc), st1 = mm_sG st k i.toNatClampNeg (vp_nar .boolean v) → mm_H D o ad cs H0 st1 H1 locs1 → W p l e R s m args below meth c H1 locs1 cells slots Q (F0 m (pc + 1) ls rest)) : W p l e R s m args below meth c H locs cells slots Q (F0 m pc ls (.int v :: .int i :: .ref (ad k) :: rest)) := by
  obtain ⟨q, hq, ha⟩ := mm_w_at (o := o) (ad := ad) (cs := cs) st hk
  rw [mm_cell_2 h1] at ha
  refine va_zast C.1 C.2.1 C.2.2.2.2.2.2.2 hM.1 hM.2.1 hM.2.2 (q + 1) 1 ha rfl hin hdg (fun H1 locs1 hP hD hS => ?_)
  have e : (mm_w o ad cs st).set (q + 1) (ad k, .inl (cs.2.1, mm_ln k, .inl (upd (st.2.1 k) i.toNatClampNeg (vp_nar .boolean v)))) = mm_w o ad cs (mm_sG st k i.toNatClampNeg (vp_nar .boolean v)) := by
    have h2 := mm_w_set (o := o) (ad := ad) (cs := cs) (st := st) (st' := mm_sG st k i.toNatClampNeg (vp_nar .boolean v)) hq rfl (fun j hj => mm_cell_G j hj)
    rw [mm_cell_2 h1] at h2
    rw [← h2]
    unfold mm_sG mm_up
    simp
  rw [e] at hP hD
  exact kk _ H1 locs1 rfl ⟨hP, hD, hS⟩
theorem mm_last (C : mm_C p s m args meth c cc nL ret ts D cs) (hM : mm_H D o ad cs H0 st H locs) (k : Nat) {i : Int32} {v : Int64} (hdg : decode cc pc = .ok (.lastore, 1)) (hk : k ∈ mm_ar) (h1 : mm_kd k = 3) (hin : vp_in i (mm_ln k))
    (kk : ∀ (st1 : mm_S) (H1 : Heap) (locs1 : List Loc), st1 = mm_sL st k i.toNatClampNeg v → mm_H D o ad cs H0 st1 H1 locs1 → W p l e R s m args below meth c H1 locs1 cells slots Q (F0 m (pc + 1) ls rest)) : W p l e R s m args below meth c H locs cells slots Q (F0 m pc ls (.long v :: .int i :: .ref (ad k) :: rest)) := by
  obtain ⟨q, hq, ha⟩ := mm_w_at (o := o) (ad := ad) (cs := cs) st hk
  rw [mm_cell_3 h1] at ha
  refine va_last C.1 C.2.1 C.2.2.2.2.2.2.2 hM.1 hM.2.1 hM.2.2 (q + 1) 2 ha rfl hin hdg (fun H1 locs1 hP hD hS => ?_)
  have e : (mm_w o ad cs st).set (q + 1) (ad k, .inl (cs.2.2, mm_ln k, .inr (.inl (vp_updL (st.2.2 k) i.toNatClampNeg v)))) = mm_w o ad cs (mm_sL st k i.toNatClampNeg v) := by
    have h2 := mm_w_set (o := o) (ad := ad) (cs := cs) (st := st) (st' := mm_sL st k i.toNatClampNeg v) hq rfl (fun j hj => mm_cell_L j hj)
    rw [mm_cell_3 h1] at h2
    rw [← h2]
    unfold mm_sL mm_up
    simp
  rw [e] at hP hD
  exact kk _ H1 locs1 rfl ⟨hP, hD, hS⟩
/-! calls of its own methods -/
theorem mm_pre (C : mm_C p s m args meth c cc nL ret ts D cs) (hM : mm_H D o ad cs H0 st H locs) (As : List Value) : PreV s H RX12 o (va_Pc (.ref o :: As) (mm_U D o ad cs st)) As := by
  have hK := C.2.2.2.2.2.2.2
  exact ⟨fun a U g mk q => ⟨q.1, q.2.1, va_K.moved (u := U) (U := U.calling g mk a) (Vm.Alike.refl U.vm) q.2.2.1, q.2.2.2⟩, va_recv hK hM.1 (q := (RX12, TX12, 63)) (ci := 14) (q0 := 0) rfl mm_w_0, fun U hU hW => ⟨rfl, by rw [hU]; exact hM.1, va_K.moved hW.alike hK, hM.2.1.weaken (fun _ _ _ _ => trivial)⟩⟩
theorem mm_ci {y : MethodName} {ws ws' : List Cond} {fr lo : Nat} {As : List Value} {x : Option (Int32 × mm_S)} {bytes : ByteArray} {maxL index n : Nat} {rt : Option FieldType} {r : Int32} {st1 : mm_S} {stk : List Value} (C : mm_C p s m args meth c cc nL ret ts D cs) (hM : mm_H D o ad cs H0 st H locs) (hc : mm_Mi l D o ad cs y ws fr lo As st x) (hg : GoodIn ts (wsV RX12 index RX12 y ws)) (hdg : decode cc pc = .ok (.invokevirtual index, 3)) (hx : x = some (r, st1)) (hsz : ls.size = nL) (hw : ws = Cond.code y bytes maxL rt :: ws')
    (hd : y.cls = RX12 ∧ y.cls ≠ "java/lang/invoke/MethodHandle" ∧ y.cls ≠ "java/lang/invoke/VarHandle" ∧ (parseMethodDescriptor y.desc).map (fun d => d.parameters.length) = some n) (hR : fr + 1 ≤ R.frames ∧ 8 + (maxL + 11) + lo ≤ R.locals) (hn : As.length = n) (hst : stk = As.reverse ++ .ref o :: rest) (hW : (rest.map fun v => v.category).sum ≤ 8) (hR2 : cells ≤ R.cells ∧ slots ≤ R.slots)
    (kk : ∀ (H1 : Heap) (locs1 : List Loc), mm_H D o ad cs H0 st1 H1 locs1 → W p l e R s m args below meth c H1 locs1 cells slots Q (F0 m (pc + 3) ls (.int r :: rest))) : W p l e R s m args below meth c H locs cells slots Q (F0 m pc ls stk) := by
  obtain ⟨hx0, hb, -, hml, hown, hts, -, hK⟩ := id C
  refine va_calli (A1 := mm_A o ad) (mc := 0) (ms := 0) (va_runV (As := As) (rest := rest) ⟨hx0, hb, hml, hown, hts⟩ (hc r st1 hx) (cwV n hts hg hw rfl rfl hd hR) (mm_pre C hM As) rfl hn hsz hst (lv_room hW) hdg hR2) hM.2.2 (fun _ _ h => h) (fun _ h => h) (fun r' u t H1 locs1 ht hvm hw hB _ _ hS => ?_)
  obtain ⟨rfl, rfl⟩ := hw
  rw [mm_U, ht] at hB
  exact kk H1 locs1 ⟨hB.1, mm_D_A hB.2.2, hS⟩
theorem mm_cl {y : MethodName} {ws ws' : List Cond} {fr lo : Nat} {As : List Value} {x : Option (Int64 × mm_S)} {bytes : ByteArray} {maxL index n : Nat} {rt : Option FieldType} {r : Int64} {st1 : mm_S} {stk : List Value} (C : mm_C p s m args meth c cc nL ret ts D cs) (hM : mm_H D o ad cs H0 st H locs) (hc : mm_Ml l D o ad cs y ws fr lo As st x) (hg : GoodIn ts (wsV RX12 index RX12 y ws)) (hdg : decode cc pc = .ok (.invokevirtual index, 3)) (hx : x = some (r, st1)) (hsz : ls.size = nL) (hw : ws = Cond.code y bytes maxL rt :: ws')
    (hd : y.cls = RX12 ∧ y.cls ≠ "java/lang/invoke/MethodHandle" ∧ y.cls ≠ "java/lang/invoke/VarHandle" ∧ (parseMethodDescriptor y.desc).map (fun d => d.parameters.length) = some n) (hR : fr + 1 ≤ R.frames ∧ 8 + (maxL + 11) + lo ≤ R.locals) (hn : As.length = n) (hst : stk = As.reverse ++ .ref o :: rest) (hW : (rest.map fun v => v.category).sum ≤ 8) (hR2 : cells ≤ R.cells ∧ slots ≤ R.slots)
    (kk : ∀ (H1 : Heap) (locs1 : List Loc), mm_H D o ad cs H0 st1 H1 locs1 → W p l e R s m args below meth c H1 locs1 cells slots Q (F0 m (pc + 3) ls (.long r :: rest))) : W p l e R s m args below meth c H locs cells slots Q (F0 m pc ls stk) := by
  obtain ⟨hx0, hb, -, hml, hown, hts, -, hK⟩ := id C
  refine va_calll (A1 := mm_A o ad) (mc := 0) (ms := 0) (va_runV (As := As) (rest := rest) ⟨hx0, hb, hml, hown, hts⟩ (hc r st1 hx) (cwV n hts hg hw rfl rfl hd hR) (mm_pre C hM As) rfl hn hsz hst (lv_room hW) hdg hR2) hM.2.2 (fun _ _ h => h) (fun _ h => h) (fun r' u t H1 locs1 ht hvm hw hB _ _ hS => ?_)
  obtain ⟨rfl, rfl⟩ := hw
  rw [mm_U, ht] at hB
  exact kk H1 locs1 ⟨hB.1, mm_D_A hB.2.2, hS⟩
theorem mm_cv {y : MethodName} {ws ws' : List Cond} {fr lo : Nat} {As : List Value} {x : Option mm_S} {bytes : ByteArray} {maxL index n : Nat} {rt : Option FieldType} {st1 : mm_S} {stk : List Value} (C : mm_C p s m args meth c cc nL ret ts D cs) (hM : mm_H D o ad cs H0 st H locs) (hc : mm_Mv l D o ad cs y ws fr lo As st x) (hg : GoodIn ts (wsV RX12 index RX12 y ws)) (hdg : decode cc pc = .ok (.invokevirtual index, 3)) (hx : x = some st1) (hsz : ls.size = nL) (hw : ws = Cond.code y bytes maxL rt :: ws')
    (hd : y.cls = RX12 ∧ y.cls ≠ "java/lang/invoke/MethodHandle" ∧ y.cls ≠ "java/lang/invoke/VarHandle" ∧ (parseMethodDescriptor y.desc).map (fun d => d.parameters.length) = some n) (hR : fr + 1 ≤ R.frames ∧ 8 + (maxL + 11) + lo ≤ R.locals) (hn : As.length = n) (hst : stk = As.reverse ++ .ref o :: rest) (hW : (rest.map fun v => v.category).sum ≤ 8) (hR2 : cells ≤ R.cells ∧ slots ≤ R.slots)
    (kk : ∀ (H1 : Heap) (locs1 : List Loc), mm_H D o ad cs H0 st1 H1 locs1 → W p l e R s m args below meth c H1 locs1 cells slots Q (F0 m (pc + 3) ls rest)) : W p l e R s m args below meth c H locs cells slots Q (F0 m pc ls stk) := by
  obtain ⟨hx0, hb, -, hml, hown, hts, -, hK⟩ := id C
  refine va_callv (A1 := mm_A o ad) (mc := 0) (ms := 0) (va_runV (As := As) (rest := rest) ⟨hx0, hb, hml, hown, hts⟩ (hc st1 hx) (cwV n hts hg hw rfl rfl hd hR) (mm_pre C hM As) rfl hn hsz hst (lv_room hW) hdg hR2) hM.2.2 (fun _ _ h => h) (fun _ h => h) (fun u t H1 locs1 ht hvm hw hB _ _ hS => ?_)
  obtain rfl := hw
  rw [mm_U, ht] at hB
  exact kk H1 locs1 ⟨hB.1, mm_D_A hB.2.2, hS⟩
/-! ends -/
theorem mm_ri {v r : Int32} {st' : mm_S} (C : mm_C p s m args meth c cc nL (some .int) ts D cs) (hM : mm_H D o ad cs s.heap st H locs) (hdg : decode cc pc = .ok (.ireturn, 1)) (hf : some (v, st) = some (r, st')) : W p l e R s m args below meth c H locs cells slots (MQ below (mm_Qi D o ad cs r st') args s cells slots (mm_A o ad)) (F0 m pc ls [.int v]) := by
  obtain ⟨rfl, rfl⟩ := fc_of_r hf
  obtain ⟨hx0, hb, hr, hml, hown, hts, hlk, hK⟩ := C
  exact W.iret (v := v) hx0 hb hr (fun t ht hW => ⟨⟨v, st, rfl, ⟨rfl, rfl⟩, by rw [mm_U, ht]; exact ⟨hM.1, va_K.moved hW.alike hK, hM.2.1.weaken (fun _ _ _ _ => trivial)⟩⟩, hM.2.2.F ht⟩) hM.2.2.2.2 hdg hlk
theorem mm_rz {v r : Int32} {st' : mm_S} (C : mm_C p s m args meth c cc nL (some .boolean) ts D cs) (hM : mm_H D o ad cs s.heap st H locs) (hdg : decode cc pc = .ok (.ireturn, 1)) (hn : narrow .boolean (.int v) = .int v) (hf : some (v, st) = some (r, st')) : W p l e R s m args below meth c H locs cells slots (MQ below (mm_Qi D o ad cs r st') args s cells slots (mm_A o ad)) (F0 m pc ls [.int v]) := by
  obtain ⟨rfl, rfl⟩ := fc_of_r hf
  obtain ⟨hx0, hb, hr, hml, hown, hts, hlk, hK⟩ := C
  exact W.zret (v := v) hx0 hb hr hn (fun t ht hW => ⟨⟨v, st, rfl, ⟨rfl, rfl⟩, by rw [mm_U, ht]; exact ⟨hM.1, va_K.moved hW.alike hK, hM.2.1.weaken (fun _ _ _ _ => trivial)⟩⟩, hM.2.2.F ht⟩) hM.2.2.2.2 hdg hlk
theorem mm_rl {v r : Int64} {st' : mm_S} (C : mm_C p s m args meth c cc nL (some .long) ts D cs) (hM : mm_H D o ad cs s.heap st H locs) (hdg : decode cc pc = .ok (.lreturn, 1)) (hf : some (v, st) = some (r, st')) : W p l e R s m args below meth c H locs cells slots (MQ below (mm_Ql D o ad cs r st') args s cells slots (mm_A o ad)) (F0 m pc ls [.long v]) := by
  obtain ⟨rfl, rfl⟩ := fc_of_r hf
  obtain ⟨hx0, hb, hr, hml, hown, hts, hlk, hK⟩ := C
  exact W.lret (v := v) hx0 hb hr (fun t ht hW => ⟨⟨v, st, rfl, ⟨rfl, rfl⟩, by rw [mm_U, ht]; exact ⟨hM.1, va_K.moved hW.alike hK, hM.2.1.weaken (fun _ _ _ _ => trivial)⟩⟩, hM.2.2.F ht⟩) hM.2.2.2.2 hdg hlk
theorem mm_rv {st' : mm_S} (C : mm_C p s m args meth c cc nL none ts D cs) (hM : mm_H D o ad cs s.heap st H locs) (hdg : decode cc pc = .ok (.return_, 1)) (hf : some st = some st') : W p l e R s m args below meth c H locs cells slots (MQ below (mm_Qv D o ad cs st') args s cells slots (mm_A o ad)) (F0 m pc ls []) := by
  obtain rfl := fc_of_v hf
  obtain ⟨hx0, hb, hr, hml, hown, hts, hlk, hK⟩ := C
  exact W.vret hx0 hb hr (fun t ht hW => ⟨⟨st, rfl, rfl, by rw [mm_U, ht]; exact ⟨hM.1, va_K.moved hW.alike hK, hM.2.1.weaken (fun _ _ _ _ => trivial)⟩⟩, hM.2.2.F ht⟩) hM.2.2.2.2 hdg hlk
end MM
/-! starts -/
theorem mm_enter {l : Launch} {D : va_G} {o : Nat} {ad : Nat → Nat} {cs : ClassId × ClassId × ClassId} {y : MethodName} {ws ws' : List Cond} {fr lo : Nat} {As : List Value} {st : mm_S} {cc : ByteArray} {nL : Nat} {ret : Option FieldType} {Qc : Array Value → State → Outcome → State → Prop} (hy : plainName y.cls = true) (hcl : y.cls = RX12) (hw : ws = Cond.code y cc nL ret :: ws') (hn : (lg_sl (.ref o :: As)).length ≤ nL)
    (body : ∀ p e s m args below meth c ls, mm_C p s m args meth c cc nL ret ws D cs → lv_has ls nL (lv_args 0 (.ref o :: As)) → mm_H D o ad cs s.heap st s.heap [] → W p l e (mm_R fr lo) s m args below meth c s.heap [] 0 0 (MQ below Qc args s 0 0 (mm_A o ad)) (F0 m 0 ls [])) : Met l y ws (mm_R fr lo) (va_Pc (.ref o :: As) (mm_U D o ad cs st)) Qc 0 0 (mm_A o ad) := by
  refine Met.ofW (cc := cc) (maxL := nL) (ret := ret) hy hw ?_
  intro p e s m args below meth c s₁ B hml hv
  obtain ⟨rfl, hP, hK, hD⟩ := hv
  have hl := lv_entry (.ref o :: As) hn
  rw [lg_entry_eq]
  generalize (lg_sl (.ref o :: As) ++ List.replicate (nL - (lg_sl (.ref o :: As)).length) Slot.unset).toArray = ls at hl ⊢
  exact body p e s m _ below meth c ls ⟨B.exec, B.bytes, B.returns, hml, by rw [← hcl]; exact findClass_of_methodNamed B.named, atoms_spec (ws := ws) B.pre, B.notSynchronized, hK⟩ hl ⟨hP, mm_D_A hD, va_S.rf⟩
end
