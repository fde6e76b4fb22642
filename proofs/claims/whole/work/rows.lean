section
-- ===== PART A: goes FIRST, ahead of the names: the tables' words, and 'selects' of the private methods out of them =====
/-- a private method of a class that the tables say can be made, by its rows of tables_1 -/
def lw_okq (q : MethodName × Nat) : Prop := (q.1.cls ≠ "java/lang/invoke/MethodHandle" ∧ q.1.cls ≠ "java/lang/invoke/VarHandle") ∧ Cond.instantiable q.1.cls q.2 ∈ tables_1 ∧ Cond.privateMethod q.1 ∈ tables_1 ∧ Cond.instanceMethod q.1 ∈ tables_1
theorem lw_p0 : lw_okq (⟨"EclipsesKept", "made", "(III)LEclipsesKept$Need;"⟩, 8) := ⟨⟨by decide +kernel, by decide +kernel⟩, List.mem_of_getElem? (i := 27) (by decide +kernel), List.mem_of_getElem? (i := 238) (by decide +kernel), List.mem_of_getElem? (i := 239) (by decide +kernel)⟩
theorem lw_p1 : lw_okq (⟨"EclipsesKept$Archive", "holdsFor", "(IIIIII)Z"⟩, 10) := ⟨⟨by decide +kernel, by decide +kernel⟩, List.mem_of_getElem? (i := 366) (by decide +kernel), List.mem_of_getElem? (i := 364) (by decide +kernel), List.mem_of_getElem? (i := 365) (by decide +kernel)⟩
theorem lw_p2 : lw_okq (⟨"EclipsesKept$Archive", "takesClauses", "()Z"⟩, 10) := ⟨⟨by decide +kernel, by decide +kernel⟩, List.mem_of_getElem? (i := 366) (by decide +kernel), List.mem_of_getElem? (i := 605) (by decide +kernel), List.mem_of_getElem? (i := 606) (by decide +kernel)⟩
theorem lw_p3 : lw_okq (⟨"EclipsesKept$Archive", "takesClause", "()Z"⟩, 10) := ⟨⟨by decide +kernel, by decide +kernel⟩, List.mem_of_getElem? (i := 366) (by decide +kernel), List.mem_of_getElem? (i := 609) (by decide +kernel), List.mem_of_getElem? (i := 610) (by decide +kernel)⟩
theorem lw_p4 : lw_okq (⟨"EclipsesKept$Archive", "sees", "(C)Z"⟩, 10) := ⟨⟨by decide +kernel, by decide +kernel⟩, List.mem_of_getElem? (i := 366) (by decide +kernel), List.mem_of_getElem? (i := 613) (by decide +kernel), List.mem_of_getElem? (i := 614) (by decide +kernel)⟩
theorem lw_p5 : lw_okq (⟨"EclipsesKept$Archive", "takesWord", "(Ljava/lang/String;)Z"⟩, 10) := ⟨⟨by decide +kernel, by decide +kernel⟩, List.mem_of_getElem? (i := 366) (by decide +kernel), List.mem_of_getElem? (i := 643) (by decide +kernel), List.mem_of_getElem? (i := 644) (by decide +kernel)⟩
theorem lw_p6 : lw_okq (⟨"EclipsesKept$Archive", "takes", "(C)Z"⟩, 10) := ⟨⟨by decide +kernel, by decide +kernel⟩, List.mem_of_getElem? (i := 366) (by decide +kernel), List.mem_of_getElem? (i := 647) (by decide +kernel), List.mem_of_getElem? (i := 648) (by decide +kernel)⟩
theorem lw_p7 : lw_okq (⟨"EclipsesKept$Archive", "takesNumber", "()I"⟩, 10) := ⟨⟨by decide +kernel, by decide +kernel⟩, List.mem_of_getElem? (i := 366) (by decide +kernel), List.mem_of_getElem? (i := 651) (by decide +kernel), List.mem_of_getElem? (i := 652) (by decide +kernel)⟩
theorem lw_p8 : lw_okq (⟨"EclipsesKept$Archive", "takesEither", "(I)Z"⟩, 10) := ⟨⟨by decide +kernel, by decide +kernel⟩, List.mem_of_getElem? (i := 366) (by decide +kernel), List.mem_of_getElem? (i := 656) (by decide +kernel), List.mem_of_getElem? (i := 657) (by decide +kernel)⟩
theorem lw_p9 : lw_okq (⟨"EclipsesKept$Archive", "takesBoth", "(I)Z"⟩, 10) := ⟨⟨by decide +kernel, by decide +kernel⟩, List.mem_of_getElem? (i := 366) (by decide +kernel), List.mem_of_getElem? (i := 660) (by decide +kernel), List.mem_of_getElem? (i := 661) (by decide +kernel)⟩
theorem lw_p10 : lw_okq (⟨"EclipsesKept$Archive", "takesPart", "(I)Z"⟩, 10) := ⟨⟨by decide +kernel, by decide +kernel⟩, List.mem_of_getElem? (i := 366) (by decide +kernel), List.mem_of_getElem? (i := 664) (by decide +kernel), List.mem_of_getElem? (i := 665) (by decide +kernel)⟩
theorem lw_p11 : lw_okq (⟨"EclipsesKept$Archive", "put", "(I)V"⟩, 10) := ⟨⟨by decide +kernel, by decide +kernel⟩, List.mem_of_getElem? (i := 366) (by decide +kernel), List.mem_of_getElem? (i := 668) (by decide +kernel), List.mem_of_getElem? (i := 669) (by decide +kernel)⟩
theorem lw_p12 : lw_okq (⟨"EclipsesKept$Archive", "takesTest", "()Z"⟩, 10) := ⟨⟨by decide +kernel, by decide +kernel⟩, List.mem_of_getElem? (i := 366) (by decide +kernel), List.mem_of_getElem? (i := 672) (by decide +kernel), List.mem_of_getElem? (i := 673) (by decide +kernel)⟩
theorem lw_p13 : lw_okq (⟨"EclipsesKept$Archive", "takesOneOf", "(Ljava/lang/String;)C"⟩, 10) := ⟨⟨by decide +kernel, by decide +kernel⟩, List.mem_of_getElem? (i := 366) (by decide +kernel), List.mem_of_getElem? (i := 677) (by decide +kernel), List.mem_of_getElem? (i := 678) (by decide +kernel)⟩
theorem lw_p14 : lw_okq (⟨"EclipsesKept", "onTheMean", "(IIII)J"⟩, 8) := ⟨⟨by decide +kernel, by decide +kernel⟩, List.mem_of_getElem? (i := 27) (by decide +kernel), List.mem_of_getElem? (i := 806) (by decide +kernel), List.mem_of_getElem? (i := 807) (by decide +kernel)⟩
theorem lw_p15 : lw_okq (⟨"EclipsesKept", "isAsked", "(II)Z"⟩, 8) := ⟨⟨by decide +kernel, by decide +kernel⟩, List.mem_of_getElem? (i := 27) (by decide +kernel), List.mem_of_getElem? (i := 810) (by decide +kernel), List.mem_of_getElem? (i := 811) (by decide +kernel)⟩
def lw_privs_1 : List (MethodName × Nat) := [(⟨"EclipsesKept", "made", "(III)LEclipsesKept$Need;"⟩, 8), (⟨"EclipsesKept$Archive", "holdsFor", "(IIIIII)Z"⟩, 10), (⟨"EclipsesKept$Archive", "takesClauses", "()Z"⟩, 10), (⟨"EclipsesKept$Archive", "takesClause", "()Z"⟩, 10), (⟨"EclipsesKept$Archive", "sees", "(C)Z"⟩, 10), (⟨"EclipsesKept$Archive", "takesWord", "(Ljava/lang/String;)Z"⟩, 10), (⟨"EclipsesKept$Archive", "takes", "(C)Z"⟩, 10), (⟨"EclipsesKept$Archive", "takesNumber", "()I"⟩, 10), (⟨"EclipsesKept$Archive", "takesEither", "(I)Z"⟩, 10), (⟨"EclipsesKept$Archive", "takesBoth", "(I)Z"⟩, 10), (⟨"EclipsesKept$Archive", "takesPart", "(I)Z"⟩, 10), (⟨"EclipsesKept$Archive", "put", "(I)V"⟩, 10), (⟨"EclipsesKept$Archive", "takesTest", "()Z"⟩, 10), (⟨"EclipsesKept$Archive", "takesOneOf", "(Ljava/lang/String;)C"⟩, 10), (⟨"EclipsesKept", "onTheMean", "(IIII)J"⟩, 8), (⟨"EclipsesKept", "isAsked", "(II)Z"⟩, 8)]
theorem lw_r1 : ∀ q ∈ lw_privs_1, lw_okq q := List.forall_mem_cons.mpr ⟨lw_p0, List.forall_mem_cons.mpr ⟨lw_p1, List.forall_mem_cons.mpr ⟨lw_p2, List.forall_mem_cons.mpr ⟨lw_p3, List.forall_mem_cons.mpr ⟨lw_p4, List.forall_mem_cons.mpr ⟨lw_p5, List.forall_mem_cons.mpr ⟨lw_p6, List.forall_mem_cons.mpr ⟨lw_p7, List.forall_mem_cons.mpr ⟨lw_p8, List.forall_mem_cons.mpr ⟨lw_p9, List.forall_mem_cons.mpr ⟨lw_p10, List.forall_mem_cons.mpr ⟨lw_p11, List.forall_mem_cons.mpr ⟨lw_p12, List.forall_mem_cons.mpr ⟨lw_p13, List.forall_mem_cons.mpr ⟨lw_p14, List.forall_mem_cons.mpr ⟨lw_p15, fun _ h => absurd h List.not_mem_nil⟩⟩⟩⟩⟩⟩⟩⟩⟩⟩⟩⟩⟩⟩⟩⟩
theorem lw_p16 : lw_okq (⟨"EclipsesKept$Years", "weigh", "(III)V"⟩, 8) := ⟨⟨by decide +kernel, by decide +kernel⟩, List.mem_of_getElem? (i := 117) (by decide +kernel), List.mem_of_getElem? (i := 828) (by decide +kernel), List.mem_of_getElem? (i := 829) (by decide +kernel)⟩
theorem lw_p17 : lw_okq (⟨"EclipsesKept$Years", "weighYear", "(IIII)J"⟩, 8) := ⟨⟨by decide +kernel, by decide +kernel⟩, List.mem_of_getElem? (i := 117) (by decide +kernel), List.mem_of_getElem? (i := 832) (by decide +kernel), List.mem_of_getElem? (i := 833) (by decide +kernel)⟩
theorem lw_p18 : lw_okq (⟨"EclipsesKept$Years", "ifServed", "(III)J"⟩, 8) := ⟨⟨by decide +kernel, by decide +kernel⟩, List.mem_of_getElem? (i := 117) (by decide +kernel), List.mem_of_getElem? (i := 840) (by decide +kernel), List.mem_of_getElem? (i := 841) (by decide +kernel)⟩
theorem lw_p19 : lw_okq (⟨"EclipsesKept$Years", "ifSpared", "(II)J"⟩, 8) := ⟨⟨by decide +kernel, by decide +kernel⟩, List.mem_of_getElem? (i := 117) (by decide +kernel), List.mem_of_getElem? (i := 844) (by decide +kernel), List.mem_of_getElem? (i := 845) (by decide +kernel)⟩
theorem lw_p20 : lw_okq (⟨"EclipsesKept", "tapeOf", "(I)LEclipsesKept$Tape;"⟩, 8) := ⟨⟨by decide +kernel, by decide +kernel⟩, List.mem_of_getElem? (i := 27) (by decide +kernel), List.mem_of_getElem? (i := 963) (by decide +kernel), List.mem_of_getElem? (i := 964) (by decide +kernel)⟩
theorem lw_p21 : lw_okq (⟨"EclipsesKeptModel", "in", "(III)Z"⟩, 63) := ⟨⟨by decide +kernel, by decide +kernel⟩, List.mem_of_getElem? (i := 1130) (by decide +kernel), List.mem_of_getElem? (i := 1331) (by decide +kernel), List.mem_of_getElem? (i := 1332) (by decide +kernel)⟩
theorem lw_p22 : lw_okq (⟨"EclipsesKeptModel", "isDarks", "(I)Z"⟩, 63) := ⟨⟨by decide +kernel, by decide +kernel⟩, List.mem_of_getElem? (i := 1130) (by decide +kernel), List.mem_of_getElem? (i := 1339) (by decide +kernel), List.mem_of_getElem? (i := 1340) (by decide +kernel)⟩
theorem lw_p23 : lw_okq (⟨"EclipsesKeptModel", "isNeed", "(I)Z"⟩, 63) := ⟨⟨by decide +kernel, by decide +kernel⟩, List.mem_of_getElem? (i := 1130) (by decide +kernel), List.mem_of_getElem? (i := 1347) (by decide +kernel), List.mem_of_getElem? (i := 1348) (by decide +kernel)⟩
theorem lw_p24 : lw_okq (⟨"EclipsesKeptModel", "goesText", "(I)Z"⟩, 63) := ⟨⟨by decide +kernel, by decide +kernel⟩, List.mem_of_getElem? (i := 1130) (by decide +kernel), List.mem_of_getElem? (i := 1359) (by decide +kernel), List.mem_of_getElem? (i := 1360) (by decide +kernel)⟩
theorem lw_p25 : lw_okq (⟨"EclipsesKeptModel", "takesClause", "(I)Z"⟩, 63) := ⟨⟨by decide +kernel, by decide +kernel⟩, List.mem_of_getElem? (i := 1130) (by decide +kernel), List.mem_of_getElem? (i := 1363) (by decide +kernel), List.mem_of_getElem? (i := 1364) (by decide +kernel)⟩
theorem lw_p26 : lw_okq (⟨"EclipsesKeptModel", "takesHead", "(I)Z"⟩, 63) := ⟨⟨by decide +kernel, by decide +kernel⟩, List.mem_of_getElem? (i := 1130) (by decide +kernel), List.mem_of_getElem? (i := 1367) (by decide +kernel), List.mem_of_getElem? (i := 1368) (by decide +kernel)⟩
theorem lw_p27 : lw_okq (⟨"EclipsesKeptModel", "next", "()I"⟩, 63) := ⟨⟨by decide +kernel, by decide +kernel⟩, List.mem_of_getElem? (i := 1130) (by decide +kernel), List.mem_of_getElem? (i := 1371) (by decide +kernel), List.mem_of_getElem? (i := 1372) (by decide +kernel)⟩
theorem lw_p28 : lw_okq (⟨"EclipsesKeptModel", "takesWord", "(II)Z"⟩, 63) := ⟨⟨by decide +kernel, by decide +kernel⟩, List.mem_of_getElem? (i := 1130) (by decide +kernel), List.mem_of_getElem? (i := 1375) (by decide +kernel), List.mem_of_getElem? (i := 1376) (by decide +kernel)⟩
theorem lw_p29 : lw_okq (⟨"EclipsesKeptModel", "takes", "(I)Z"⟩, 63) := ⟨⟨by decide +kernel, by decide +kernel⟩, List.mem_of_getElem? (i := 1130) (by decide +kernel), List.mem_of_getElem? (i := 1379) (by decide +kernel), List.mem_of_getElem? (i := 1380) (by decide +kernel)⟩
theorem lw_p30 : lw_okq (⟨"EclipsesKeptModel", "takesNumber", "()Z"⟩, 63) := ⟨⟨by decide +kernel, by decide +kernel⟩, List.mem_of_getElem? (i := 1130) (by decide +kernel), List.mem_of_getElem? (i := 1383) (by decide +kernel), List.mem_of_getElem? (i := 1384) (by decide +kernel)⟩
theorem lw_p31 : lw_okq (⟨"EclipsesKeptModel", "isDigit", "()Z"⟩, 63) := ⟨⟨by decide +kernel, by decide +kernel⟩, List.mem_of_getElem? (i := 1130) (by decide +kernel), List.mem_of_getElem? (i := 1387) (by decide +kernel), List.mem_of_getElem? (i := 1388) (by decide +kernel)⟩
def lw_privs_2 : List (MethodName × Nat) := [(⟨"EclipsesKept$Years", "weigh", "(III)V"⟩, 8), (⟨"EclipsesKept$Years", "weighYear", "(IIII)J"⟩, 8), (⟨"EclipsesKept$Years", "ifServed", "(III)J"⟩, 8), (⟨"EclipsesKept$Years", "ifSpared", "(II)J"⟩, 8), (⟨"EclipsesKept", "tapeOf", "(I)LEclipsesKept$Tape;"⟩, 8), (⟨"EclipsesKeptModel", "in", "(III)Z"⟩, 63), (⟨"EclipsesKeptModel", "isDarks", "(I)Z"⟩, 63), (⟨"EclipsesKeptModel", "isNeed", "(I)Z"⟩, 63), (⟨"EclipsesKeptModel", "goesText", "(I)Z"⟩, 63), (⟨"EclipsesKeptModel", "takesClause", "(I)Z"⟩, 63), (⟨"EclipsesKeptModel", "takesHead", "(I)Z"⟩, 63), (⟨"EclipsesKeptModel", "next", "()I"⟩, 63), (⟨"EclipsesKeptModel", "takesWord", "(II)Z"⟩, 63), (⟨"EclipsesKeptModel", "takes", "(I)Z"⟩, 63), (⟨"EclipsesKeptModel", "takesNumber", "()Z"⟩, 63), (⟨"EclipsesKeptModel", "isDigit", "()Z"⟩, 63)]
theorem lw_r2 : ∀ q ∈ lw_privs_2, lw_okq q := List.forall_mem_cons.mpr ⟨lw_p16, List.forall_mem_cons.mpr ⟨lw_p17, List.forall_mem_cons.mpr ⟨lw_p18, List.forall_mem_cons.mpr ⟨lw_p19, List.forall_mem_cons.mpr ⟨lw_p20, List.forall_mem_cons.mpr ⟨lw_p21, List.forall_mem_cons.mpr ⟨lw_p22, List.forall_mem_cons.mpr ⟨lw_p23, List.forall_mem_cons.mpr ⟨lw_p24, List.forall_mem_cons.mpr ⟨lw_p25, List.forall_mem_cons.mpr ⟨lw_p26, List.forall_mem_cons.mpr ⟨lw_p27, List.forall_mem_cons.mpr ⟨lw_p28, List.forall_mem_cons.mpr ⟨lw_p29, List.forall_mem_cons.mpr ⟨lw_p30, List.forall_mem_cons.mpr ⟨lw_p31, fun _ h => absurd h List.not_mem_nil⟩⟩⟩⟩⟩⟩⟩⟩⟩⟩⟩⟩⟩⟩⟩⟩
theorem lw_p32 : lw_okq (⟨"EclipsesKeptModel", "takesE", "(I)Z"⟩, 63) := ⟨⟨by decide +kernel, by decide +kernel⟩, List.mem_of_getElem? (i := 1130) (by decide +kernel), List.mem_of_getElem? (i := 1391) (by decide +kernel), List.mem_of_getElem? (i := 1392) (by decide +kernel)⟩
theorem lw_p33 : lw_okq (⟨"EclipsesKeptModel", "takesTest", "()Z"⟩, 63) := ⟨⟨by decide +kernel, by decide +kernel⟩, List.mem_of_getElem? (i := 1130) (by decide +kernel), List.mem_of_getElem? (i := 1395) (by decide +kernel), List.mem_of_getElem? (i := 1396) (by decide +kernel)⟩
theorem lw_p34 : lw_okq (⟨"EclipsesKeptModel", "place", "(I)I"⟩, 63) := ⟨⟨by decide +kernel, by decide +kernel⟩, List.mem_of_getElem? (i := 1130) (by decide +kernel), List.mem_of_getElem? (i := 1399) (by decide +kernel), List.mem_of_getElem? (i := 1400) (by decide +kernel)⟩
theorem lw_p35 : lw_okq (⟨"EclipsesKeptModel", "emits", "(I)V"⟩, 63) := ⟨⟨by decide +kernel, by decide +kernel⟩, List.mem_of_getElem? (i := 1130) (by decide +kernel), List.mem_of_getElem? (i := 1403) (by decide +kernel), List.mem_of_getElem? (i := 1404) (by decide +kernel)⟩
theorem lw_p36 : lw_okq (⟨"EclipsesKeptModel", "whole", "()V"⟩, 63) := ⟨⟨by decide +kernel, by decide +kernel⟩, List.mem_of_getElem? (i := 1130) (by decide +kernel), List.mem_of_getElem? (i := 1407) (by decide +kernel), List.mem_of_getElem? (i := 1408) (by decide +kernel)⟩
theorem lw_p37 : lw_okq (⟨"EclipsesKeptModel", "settle", "(I)V"⟩, 63) := ⟨⟨by decide +kernel, by decide +kernel⟩, List.mem_of_getElem? (i := 1130) (by decide +kernel), List.mem_of_getElem? (i := 1411) (by decide +kernel), List.mem_of_getElem? (i := 1412) (by decide +kernel)⟩
theorem lw_p38 : lw_okq (⟨"EclipsesKeptModel", "worthOf", "(III)I"⟩, 63) := ⟨⟨by decide +kernel, by decide +kernel⟩, List.mem_of_getElem? (i := 1130) (by decide +kernel), List.mem_of_getElem? (i := 1419) (by decide +kernel), List.mem_of_getElem? (i := 1420) (by decide +kernel)⟩
theorem lw_p39 : lw_okq (⟨"EclipsesKeptModel", "base", "(III)I"⟩, 63) := ⟨⟨by decide +kernel, by decide +kernel⟩, List.mem_of_getElem? (i := 1130) (by decide +kernel), List.mem_of_getElem? (i := 1423) (by decide +kernel), List.mem_of_getElem? (i := 1424) (by decide +kernel)⟩
theorem lw_p40 : lw_okq (⟨"EclipsesKeptModel", "begin", "()I"⟩, 63) := ⟨⟨by decide +kernel, by decide +kernel⟩, List.mem_of_getElem? (i := 1130) (by decide +kernel), List.mem_of_getElem? (i := 1427) (by decide +kernel), List.mem_of_getElem? (i := 1428) (by decide +kernel)⟩
theorem lw_p41 : lw_okq (⟨"EclipsesKeptModel", "behind", "()I"⟩, 63) := ⟨⟨by decide +kernel, by decide +kernel⟩, List.mem_of_getElem? (i := 1130) (by decide +kernel), List.mem_of_getElem? (i := 1431) (by decide +kernel), List.mem_of_getElem? (i := 1432) (by decide +kernel)⟩
theorem lw_p42 : lw_okq (⟨"EclipsesKeptModel", "holds", "(IIII)Z"⟩, 63) := ⟨⟨by decide +kernel, by decide +kernel⟩, List.mem_of_getElem? (i := 1130) (by decide +kernel), List.mem_of_getElem? (i := 1435) (by decide +kernel), List.mem_of_getElem? (i := 1436) (by decide +kernel)⟩
theorem lw_p43 : lw_okq (⟨"EclipsesKeptModel", "factOf", "(IIII)I"⟩, 63) := ⟨⟨by decide +kernel, by decide +kernel⟩, List.mem_of_getElem? (i := 1130) (by decide +kernel), List.mem_of_getElem? (i := 1439) (by decide +kernel), List.mem_of_getElem? (i := 1440) (by decide +kernel)⟩
theorem lw_p44 : lw_okq (⟨"EclipsesKeptModel", "keep", "()I"⟩, 63) := ⟨⟨by decide +kernel, by decide +kernel⟩, List.mem_of_getElem? (i := 1130) (by decide +kernel), List.mem_of_getElem? (i := 1453) (by decide +kernel), List.mem_of_getElem? (i := 1454) (by decide +kernel)⟩
theorem lw_p45 : lw_okq (⟨"EclipsesKeptModel", "held", "(I)I"⟩, 63) := ⟨⟨by decide +kernel, by decide +kernel⟩, List.mem_of_getElem? (i := 1130) (by decide +kernel), List.mem_of_getElem? (i := 1457) (by decide +kernel), List.mem_of_getElem? (i := 1458) (by decide +kernel)⟩
theorem lw_p46 : lw_okq (⟨"EclipsesKeptModel", "isAsked", "(II)Z"⟩, 63) := ⟨⟨by decide +kernel, by decide +kernel⟩, List.mem_of_getElem? (i := 1130) (by decide +kernel), List.mem_of_getElem? (i := 1475) (by decide +kernel), List.mem_of_getElem? (i := 1476) (by decide +kernel)⟩
theorem lw_p47 : lw_okq (⟨"EclipsesKeptModel", "isYears", "(I)Z"⟩, 63) := ⟨⟨by decide +kernel, by decide +kernel⟩, List.mem_of_getElem? (i := 1130) (by decide +kernel), List.mem_of_getElem? (i := 1479) (by decide +kernel), List.mem_of_getElem? (i := 1480) (by decide +kernel)⟩
def lw_privs_3 : List (MethodName × Nat) := [(⟨"EclipsesKeptModel", "takesE", "(I)Z"⟩, 63), (⟨"EclipsesKeptModel", "takesTest", "()Z"⟩, 63), (⟨"EclipsesKeptModel", "place", "(I)I"⟩, 63), (⟨"EclipsesKeptModel", "emits", "(I)V"⟩, 63), (⟨"EclipsesKeptModel", "whole", "()V"⟩, 63), (⟨"EclipsesKeptModel", "settle", "(I)V"⟩, 63), (⟨"EclipsesKeptModel", "worthOf", "(III)I"⟩, 63), (⟨"EclipsesKeptModel", "base", "(III)I"⟩, 63), (⟨"EclipsesKeptModel", "begin", "()I"⟩, 63), (⟨"EclipsesKeptModel", "behind", "()I"⟩, 63), (⟨"EclipsesKeptModel", "holds", "(IIII)Z"⟩, 63), (⟨"EclipsesKeptModel", "factOf", "(IIII)I"⟩, 63), (⟨"EclipsesKeptModel", "keep", "()I"⟩, 63), (⟨"EclipsesKeptModel", "held", "(I)I"⟩, 63), (⟨"EclipsesKeptModel", "isAsked", "(II)Z"⟩, 63), (⟨"EclipsesKeptModel", "isYears", "(I)Z"⟩, 63)]
theorem lw_r3 : ∀ q ∈ lw_privs_3, lw_okq q := List.forall_mem_cons.mpr ⟨lw_p32, List.forall_mem_cons.mpr ⟨lw_p33, List.forall_mem_cons.mpr ⟨lw_p34, List.forall_mem_cons.mpr ⟨lw_p35, List.forall_mem_cons.mpr ⟨lw_p36, List.forall_mem_cons.mpr ⟨lw_p37, List.forall_mem_cons.mpr ⟨lw_p38, List.forall_mem_cons.mpr ⟨lw_p39, List.forall_mem_cons.mpr ⟨lw_p40, List.forall_mem_cons.mpr ⟨lw_p41, List.forall_mem_cons.mpr ⟨lw_p42, List.forall_mem_cons.mpr ⟨lw_p43, List.forall_mem_cons.mpr ⟨lw_p44, List.forall_mem_cons.mpr ⟨lw_p45, List.forall_mem_cons.mpr ⟨lw_p46, List.forall_mem_cons.mpr ⟨lw_p47, fun _ h => absurd h List.not_mem_nil⟩⟩⟩⟩⟩⟩⟩⟩⟩⟩⟩⟩⟩⟩⟩⟩
theorem lw_p48 : lw_okq (⟨"EclipsesKeptModel", "layGains", "(II)V"⟩, 63) := ⟨⟨by decide +kernel, by decide +kernel⟩, List.mem_of_getElem? (i := 1130) (by decide +kernel), List.mem_of_getElem? (i := 1484) (by decide +kernel), List.mem_of_getElem? (i := 1485) (by decide +kernel)⟩
theorem lw_p49 : lw_okq (⟨"EclipsesKeptModel", "gainOf", "(IIIII)J"⟩, 63) := ⟨⟨by decide +kernel, by decide +kernel⟩, List.mem_of_getElem? (i := 1130) (by decide +kernel), List.mem_of_getElem? (i := 1488) (by decide +kernel), List.mem_of_getElem? (i := 1489) (by decide +kernel)⟩
theorem lw_p50 : lw_okq (⟨"EclipsesKeptModel", "ifSpared", "(III)J"⟩, 63) := ⟨⟨by decide +kernel, by decide +kernel⟩, List.mem_of_getElem? (i := 1130) (by decide +kernel), List.mem_of_getElem? (i := 1492) (by decide +kernel), List.mem_of_getElem? (i := 1493) (by decide +kernel)⟩
theorem lw_p51 : lw_okq (⟨"EclipsesKeptModel", "ways", "(I)J"⟩, 63) := ⟨⟨by decide +kernel, by decide +kernel⟩, List.mem_of_getElem? (i := 1130) (by decide +kernel), List.mem_of_getElem? (i := 1496) (by decide +kernel), List.mem_of_getElem? (i := 1497) (by decide +kernel)⟩
theorem lw_p52 : lw_okq (⟨"EclipsesKeptModel", "ifServed", "(IIII)J"⟩, 63) := ⟨⟨by decide +kernel, by decide +kernel⟩, List.mem_of_getElem? (i := 1130) (by decide +kernel), List.mem_of_getElem? (i := 1500) (by decide +kernel), List.mem_of_getElem? (i := 1501) (by decide +kernel)⟩
theorem lw_p53 : lw_okq (⟨"EclipsesKeptModel", "has", "(II)Z"⟩, 63) := ⟨⟨by decide +kernel, by decide +kernel⟩, List.mem_of_getElem? (i := 1130) (by decide +kernel), List.mem_of_getElem? (i := 1504) (by decide +kernel), List.mem_of_getElem? (i := 1505) (by decide +kernel)⟩
theorem lw_p54 : lw_okq (⟨"EclipsesKeptModel", "lowest", "(JJI)J"⟩, 63) := ⟨⟨by decide +kernel, by decide +kernel⟩, List.mem_of_getElem? (i := 1130) (by decide +kernel), List.mem_of_getElem? (i := 1508) (by decide +kernel), List.mem_of_getElem? (i := 1509) (by decide +kernel)⟩
theorem lw_p55 : lw_okq (⟨"EclipsesKeptModel", "divisor", "(JJ)J"⟩, 63) := ⟨⟨by decide +kernel, by decide +kernel⟩, List.mem_of_getElem? (i := 1130) (by decide +kernel), List.mem_of_getElem? (i := 1512) (by decide +kernel), List.mem_of_getElem? (i := 1513) (by decide +kernel)⟩
theorem lw_p56 : lw_okq (⟨"EclipsesKeptModel", "bestSet", "()I"⟩, 63) := ⟨⟨by decide +kernel, by decide +kernel⟩, List.mem_of_getElem? (i := 1130) (by decide +kernel), List.mem_of_getElem? (i := 1552) (by decide +kernel), List.mem_of_getElem? (i := 1553) (by decide +kernel)⟩
theorem lw_p57 : lw_okq (⟨"EclipsesKeptModel", "bits", "(I)I"⟩, 63) := ⟨⟨by decide +kernel, by decide +kernel⟩, List.mem_of_getElem? (i := 1130) (by decide +kernel), List.mem_of_getElem? (i := 1556) (by decide +kernel), List.mem_of_getElem? (i := 1557) (by decide +kernel)⟩
theorem lw_p58 : lw_okq (⟨"EclipsesKeptModel", "gainBy", "(I)I"⟩, 63) := ⟨⟨by decide +kernel, by decide +kernel⟩, List.mem_of_getElem? (i := 1130) (by decide +kernel), List.mem_of_getElem? (i := 1560) (by decide +kernel), List.mem_of_getElem? (i := 1561) (by decide +kernel)⟩
theorem lw_p59 : lw_okq (⟨"EclipsesKeptModel", "isSeen", "(I)Z"⟩, 63) := ⟨⟨by decide +kernel, by decide +kernel⟩, List.mem_of_getElem? (i := 1130) (by decide +kernel), List.mem_of_getElem? (i := 1576) (by decide +kernel), List.mem_of_getElem? (i := 1577) (by decide +kernel)⟩
theorem lw_p60 : lw_okq (⟨"EclipsesKeptModel", "isTape", "(I)Z"⟩, 63) := ⟨⟨by decide +kernel, by decide +kernel⟩, List.mem_of_getElem? (i := 1130) (by decide +kernel), List.mem_of_getElem? (i := 1596) (by decide +kernel), List.mem_of_getElem? (i := 1597) (by decide +kernel)⟩
theorem lw_p61 : lw_okq (⟨"EclipsesKeptModel", "darkensAct", "(II)I"⟩, 63) := ⟨⟨by decide +kernel, by decide +kernel⟩, List.mem_of_getElem? (i := 1130) (by decide +kernel), List.mem_of_getElem? (i := 1612) (by decide +kernel), List.mem_of_getElem? (i := 1613) (by decide +kernel)⟩
theorem lw_p62 : lw_okq (⟨"EclipsesKeptModel", "body", "(I)V"⟩, 63) := ⟨⟨by decide +kernel, by decide +kernel⟩, List.mem_of_getElem? (i := 1130) (by decide +kernel), List.mem_of_getElem? (i := 1616) (by decide +kernel), List.mem_of_getElem? (i := 1617) (by decide +kernel)⟩
theorem lw_p63 : lw_okq (⟨"EclipsesKeptModel", "needDarkens", "(II)I"⟩, 63) := ⟨⟨by decide +kernel, by decide +kernel⟩, List.mem_of_getElem? (i := 1130) (by decide +kernel), List.mem_of_getElem? (i := 1620) (by decide +kernel), List.mem_of_getElem? (i := 1621) (by decide +kernel)⟩
def lw_privs_4 : List (MethodName × Nat) := [(⟨"EclipsesKeptModel", "layGains", "(II)V"⟩, 63), (⟨"EclipsesKeptModel", "gainOf", "(IIIII)J"⟩, 63), (⟨"EclipsesKeptModel", "ifSpared", "(III)J"⟩, 63), (⟨"EclipsesKeptModel", "ways", "(I)J"⟩, 63), (⟨"EclipsesKeptModel", "ifServed", "(IIII)J"⟩, 63), (⟨"EclipsesKeptModel", "has", "(II)Z"⟩, 63), (⟨"EclipsesKeptModel", "lowest", "(JJI)J"⟩, 63), (⟨"EclipsesKeptModel", "divisor", "(JJ)J"⟩, 63), (⟨"EclipsesKeptModel", "bestSet", "()I"⟩, 63), (⟨"EclipsesKeptModel", "bits", "(I)I"⟩, 63), (⟨"EclipsesKeptModel", "gainBy", "(I)I"⟩, 63), (⟨"EclipsesKeptModel", "isSeen", "(I)Z"⟩, 63), (⟨"EclipsesKeptModel", "isTape", "(I)Z"⟩, 63), (⟨"EclipsesKeptModel", "darkensAct", "(II)I"⟩, 63), (⟨"EclipsesKeptModel", "body", "(I)V"⟩, 63), (⟨"EclipsesKeptModel", "needDarkens", "(II)I"⟩, 63)]
theorem lw_r4 : ∀ q ∈ lw_privs_4, lw_okq q := List.forall_mem_cons.mpr ⟨lw_p48, List.forall_mem_cons.mpr ⟨lw_p49, List.forall_mem_cons.mpr ⟨lw_p50, List.forall_mem_cons.mpr ⟨lw_p51, List.forall_mem_cons.mpr ⟨lw_p52, List.forall_mem_cons.mpr ⟨lw_p53, List.forall_mem_cons.mpr ⟨lw_p54, List.forall_mem_cons.mpr ⟨lw_p55, List.forall_mem_cons.mpr ⟨lw_p56, List.forall_mem_cons.mpr ⟨lw_p57, List.forall_mem_cons.mpr ⟨lw_p58, List.forall_mem_cons.mpr ⟨lw_p59, List.forall_mem_cons.mpr ⟨lw_p60, List.forall_mem_cons.mpr ⟨lw_p61, List.forall_mem_cons.mpr ⟨lw_p62, List.forall_mem_cons.mpr ⟨lw_p63, fun _ h => absurd h List.not_mem_nil⟩⟩⟩⟩⟩⟩⟩⟩⟩⟩⟩⟩⟩⟩⟩⟩
theorem lw_p64 : lw_okq (⟨"EclipsesKeptModel", "pleadsAct", "(II)I"⟩, 63) := ⟨⟨by decide +kernel, by decide +kernel⟩, List.mem_of_getElem? (i := 1130) (by decide +kernel), List.mem_of_getElem? (i := 1624) (by decide +kernel), List.mem_of_getElem? (i := 1625) (by decide +kernel)⟩
theorem lw_p65 : lw_okq (⟨"EclipsesKeptModel", "siegePleads", "(II)I"⟩, 63) := ⟨⟨by decide +kernel, by decide +kernel⟩, List.mem_of_getElem? (i := 1130) (by decide +kernel), List.mem_of_getElem? (i := 1628) (by decide +kernel), List.mem_of_getElem? (i := 1629) (by decide +kernel)⟩
theorem lw_p66 : lw_okq (⟨"EclipsesKeptModel", "needPleads", "(II)I"⟩, 63) := ⟨⟨by decide +kernel, by decide +kernel⟩, List.mem_of_getElem? (i := 1130) (by decide +kernel), List.mem_of_getElem? (i := 1632) (by decide +kernel), List.mem_of_getElem? (i := 1633) (by decide +kernel)⟩
theorem lw_p67 : lw_okq (⟨"EclipsesKeptModel", "tellsAct", "(II)I"⟩, 63) := ⟨⟨by decide +kernel, by decide +kernel⟩, List.mem_of_getElem? (i := 1130) (by decide +kernel), List.mem_of_getElem? (i := 1636) (by decide +kernel), List.mem_of_getElem? (i := 1637) (by decide +kernel)⟩
theorem lw_p68 : lw_okq (⟨"EclipsesKeptModel", "needTells", "(II)I"⟩, 63) := ⟨⟨by decide +kernel, by decide +kernel⟩, List.mem_of_getElem? (i := 1130) (by decide +kernel), List.mem_of_getElem? (i := 1640) (by decide +kernel), List.mem_of_getElem? (i := 1641) (by decide +kernel)⟩
theorem lw_p69 : lw_okq (⟨"EclipsesKeptModel", "narrow", "(IJ)J"⟩, 63) := ⟨⟨by decide +kernel, by decide +kernel⟩, List.mem_of_getElem? (i := 1130) (by decide +kernel), List.mem_of_getElem? (i := 1664) (by decide +kernel), List.mem_of_getElem? (i := 1665) (by decide +kernel)⟩
def lw_privs_5 : List (MethodName × Nat) := [(⟨"EclipsesKeptModel", "pleadsAct", "(II)I"⟩, 63), (⟨"EclipsesKeptModel", "siegePleads", "(II)I"⟩, 63), (⟨"EclipsesKeptModel", "needPleads", "(II)I"⟩, 63), (⟨"EclipsesKeptModel", "tellsAct", "(II)I"⟩, 63), (⟨"EclipsesKeptModel", "needTells", "(II)I"⟩, 63), (⟨"EclipsesKeptModel", "narrow", "(IJ)J"⟩, 63)]
theorem lw_r5 : ∀ q ∈ lw_privs_5, lw_okq q := List.forall_mem_cons.mpr ⟨lw_p64, List.forall_mem_cons.mpr ⟨lw_p65, List.forall_mem_cons.mpr ⟨lw_p66, List.forall_mem_cons.mpr ⟨lw_p67, List.forall_mem_cons.mpr ⟨lw_p68, List.forall_mem_cons.mpr ⟨lw_p69, fun _ h => absurd h List.not_mem_nil⟩⟩⟩⟩⟩⟩
def lw_privs : List (MethodName × Nat) := lw_privs_1 ++ (lw_privs_2 ++ (lw_privs_3 ++ (lw_privs_4 ++ (lw_privs_5))))
def lw_tbl : List Cond := k2_sels lw_privs ++ tables_1
theorem lw_privs_ok : ∀ q ∈ lw_privs, lw_okq q := by
  show ∀ q ∈ lw_privs_1 ++ (lw_privs_2 ++ (lw_privs_3 ++ (lw_privs_4 ++ (lw_privs_5)))), lw_okq q
  exact List.forall_mem_append.mpr ⟨lw_r1, List.forall_mem_append.mpr ⟨lw_r2, List.forall_mem_append.mpr ⟨lw_r3, List.forall_mem_append.mpr ⟨lw_r4, lw_r5⟩⟩⟩⟩
-- ===== end of PART A; then your names; then what follows =====
end
section
/-! ===== BEGIN printed: names, fields, word lists, decode rows ===== -/
def RX0 : String := "EclipsesKept$Archive"
def TX0 : u_T := fun k => match k with
  | 0 => ("EclipsesKept$Archive", "text", "Ljava/lang/String;", true)
  | 1 => ("EclipsesKept$Archive", "one", "Z", true)
  | 2 => ("EclipsesKept$Archive", "at", "I", false)
  | 3 => ("EclipsesKept$Archive", "sorts", "[I", true)
  | 4 => ("EclipsesKept$Archive", "numbers", "[I", true)
  | 5 => ("EclipsesKept$Archive", "starts", "[I", true)
  | 6 => ("EclipsesKept$Archive", "codes", "[I", true)
  | 7 => ("EclipsesKept$Archive", "clauses", "I", false)
  | 8 => ("EclipsesKept$Archive", "codeCount", "I", false)
  | _ => ("EclipsesKept$Archive", "keep", "I", false)
def tyX0 : Nat → FieldType := fun k => match k with
  | 0 => .object "java/lang/String"
  | 1 => .boolean
  | 2 => .int
  | 3 => .array .int
  | 4 => .array .int
  | 5 => .array .int
  | 6 => .array .int
  | 7 => .int
  | 8 => .int
  | _ => .int
abbrev wsX00 : List Cond := u_ws RX0 TX0 10
theorem nmX0 : ∀ a, a < 10 → ∀ b, b < 10 → a ≠ b → (TX0 a).2.1 ≠ (TX0 b).2.1 := by decide +kernel
theorem tyX0_ok : ∀ k, k < 10 → parseFieldDescriptor (TX0 k).2.2.1 = some (tyX0 k) := by decide +kernel
abbrev cX0_init : ByteArray := prog_2_method_1_code
def yX0_init : MethodName := ⟨RX0, "<init>", "(Ljava/lang/String;)V"⟩
abbrev cX0_isOne : ByteArray := prog_2_method_2_code
def yX0_isOne : MethodName := ⟨RX0, "isOne", "()Z"⟩
abbrev cX0_place : ByteArray := prog_2_method_3_code
def yX0_place : MethodName := ⟨RX0, "place", "()I"⟩
abbrev cX0_takesClauses : ByteArray := prog_2_method_4_code
def yX0_takesClauses : MethodName := ⟨RX0, "takesClauses", "()Z"⟩
abbrev cX0_takesClause : ByteArray := prog_2_method_5_code
def yX0_takesClause : MethodName := ⟨RX0, "takesClause", "()Z"⟩
abbrev cX0_takesEither : ByteArray := prog_2_method_6_code
def yX0_takesEither : MethodName := ⟨RX0, "takesEither", "(I)Z"⟩
abbrev cX0_takesBoth : ByteArray := prog_2_method_7_code
def yX0_takesBoth : MethodName := ⟨RX0, "takesBoth", "(I)Z"⟩
abbrev cX0_takesPart : ByteArray := prog_2_method_8_code
def yX0_takesPart : MethodName := ⟨RX0, "takesPart", "(I)Z"⟩
abbrev cX0_takesTest : ByteArray := prog_2_method_9_code
def yX0_takesTest : MethodName := ⟨RX0, "takesTest", "()Z"⟩
abbrev cX0_takesNumber : ByteArray := prog_2_method_10_code
def yX0_takesNumber : MethodName := ⟨RX0, "takesNumber", "()I"⟩
abbrev cX0_takesWord : ByteArray := prog_2_method_11_code
def yX0_takesWord : MethodName := ⟨RX0, "takesWord", "(Ljava/lang/String;)Z"⟩
abbrev cX0_takesOneOf : ByteArray := prog_2_method_12_code
def yX0_takesOneOf : MethodName := ⟨RX0, "takesOneOf", "(Ljava/lang/String;)C"⟩
abbrev cX0_takes : ByteArray := prog_2_method_13_code
def yX0_takes : MethodName := ⟨RX0, "takes", "(C)Z"⟩
abbrev cX0_sees : ByteArray := prog_2_method_14_code
def yX0_sees : MethodName := ⟨RX0, "sees", "(C)Z"⟩
abbrev cX0_put : ByteArray := prog_2_method_15_code
def yX0_put : MethodName := ⟨RX0, "put", "(I)V"⟩
abbrev cX0_baseOf : ByteArray := prog_2_method_16_code
def yX0_baseOf : MethodName := ⟨RX0, "baseOf", "(IIIII)I"⟩
abbrev cX0_holdsFor : ByteArray := prog_2_method_17_code
def yX0_holdsFor : MethodName := ⟨RX0, "holdsFor", "(IIIIII)Z"⟩
abbrev cX0_passes : ByteArray := prog_2_method_18_code
def yX0_passes : MethodName := ⟨RX0, "passes", "(IIIIII)Z"⟩
def RX1 : String := "EclipsesKept$Bird"
def TX1 : u_T := fun k => match k with
  | 0 => ("EclipsesKept$Need", "kind", "I", true)
  | 1 => ("EclipsesKept$Need", "number", "I", true)
  | 2 => ("EclipsesKept$Need", "v", "I", true)
  | _ => ("EclipsesKept$Need", "bodies", "[I", true)
def tyX1 : Nat → FieldType := fun k => match k with
  | 0 => .int
  | 1 => .int
  | 2 => .int
  | _ => .array .int
abbrev wsX10 : List Cond := u_ws RX1 TX1 4
theorem nmX1 : ∀ a, a < 4 → ∀ b, b < 4 → a ≠ b → (TX1 a).2.1 ≠ (TX1 b).2.1 := by decide +kernel
theorem tyX1_ok : ∀ k, k < 4 → parseFieldDescriptor (TX1 k).2.2.1 = some (tyX1 k) := by decide +kernel
abbrev cX1_init : ByteArray := prog_3_method_1_code
def yX1_init : MethodName := ⟨RX1, "<init>", "(III[I)V"⟩
abbrev cX1_gives : ByteArray := prog_3_method_2_code
def yX1_gives : MethodName := ⟨RX1, "gives", "(IIIII)I"⟩
abbrev cX1_tells : ByteArray := prog_3_method_3_code
def yX1_tells : MethodName := ⟨RX1, "tells", "(I)I"⟩
def RX2 : String := "EclipsesKept$Child"
def TX2 : u_T := fun k => match k with
  | 0 => ("EclipsesKept$Need", "kind", "I", true)
  | 1 => ("EclipsesKept$Need", "number", "I", true)
  | 2 => ("EclipsesKept$Need", "v", "I", true)
  | _ => ("EclipsesKept$Need", "bodies", "[I", true)
def tyX2 : Nat → FieldType := fun k => match k with
  | 0 => .int
  | 1 => .int
  | 2 => .int
  | _ => .array .int
abbrev wsX20 : List Cond := u_ws RX2 TX2 4
theorem nmX2 : ∀ a, a < 4 → ∀ b, b < 4 → a ≠ b → (TX2 a).2.1 ≠ (TX2 b).2.1 := by decide +kernel
theorem tyX2_ok : ∀ k, k < 4 → parseFieldDescriptor (TX2 k).2.2.1 = some (tyX2 k) := by decide +kernel
abbrev cX2_init : ByteArray := prog_4_method_1_code
def yX2_init : MethodName := ⟨RX2, "<init>", "(III[I)V"⟩
abbrev cX2_gives : ByteArray := prog_4_method_2_code
def yX2_gives : MethodName := ⟨RX2, "gives", "(IIIII)I"⟩
abbrev cX2_darkens : ByteArray := prog_4_method_3_code
def yX2_darkens : MethodName := ⟨RX2, "darkens", "(I)I"⟩
abbrev cX2_pleads : ByteArray := prog_4_method_4_code
def yX2_pleads : MethodName := ⟨RX2, "pleads", "(I)I"⟩
def RX3 : String := "EclipsesKept$Crown"
def TX3 : u_T := fun k => match k with
  | 0 => ("EclipsesKept$Need", "kind", "I", true)
  | 1 => ("EclipsesKept$Need", "number", "I", true)
  | 2 => ("EclipsesKept$Need", "v", "I", true)
  | _ => ("EclipsesKept$Need", "bodies", "[I", true)
def tyX3 : Nat → FieldType := fun k => match k with
  | 0 => .int
  | 1 => .int
  | 2 => .int
  | _ => .array .int
abbrev wsX30 : List Cond := u_ws RX3 TX3 4
theorem nmX3 : ∀ a, a < 4 → ∀ b, b < 4 → a ≠ b → (TX3 a).2.1 ≠ (TX3 b).2.1 := by decide +kernel
theorem tyX3_ok : ∀ k, k < 4 → parseFieldDescriptor (TX3 k).2.2.1 = some (tyX3 k) := by decide +kernel
abbrev cX3_init : ByteArray := prog_5_method_1_code
def yX3_init : MethodName := ⟨RX3, "<init>", "(III[I)V"⟩
abbrev cX3_gives : ByteArray := prog_5_method_2_code
def yX3_gives : MethodName := ⟨RX3, "gives", "(IIIII)I"⟩
abbrev cX3_darkens : ByteArray := prog_5_method_3_code
def yX3_darkens : MethodName := ⟨RX3, "darkens", "(I)I"⟩
def RX4 : String := "EclipsesKept$Need"
def TX4 : u_T := fun k => match k with
  | 0 => ("EclipsesKept$Need", "kind", "I", true)
  | 1 => ("EclipsesKept$Need", "number", "I", true)
  | 2 => ("EclipsesKept$Need", "v", "I", true)
  | _ => ("EclipsesKept$Need", "bodies", "[I", true)
def tyX4 : Nat → FieldType := fun k => match k with
  | 0 => .int
  | 1 => .int
  | 2 => .int
  | _ => .array .int
abbrev wsX40 : List Cond := u_ws RX4 TX4 4
theorem nmX4 : ∀ a, a < 4 → ∀ b, b < 4 → a ≠ b → (TX4 a).2.1 ≠ (TX4 b).2.1 := by decide +kernel
theorem tyX4_ok : ∀ k, k < 4 → parseFieldDescriptor (TX4 k).2.2.1 = some (tyX4 k) := by decide +kernel
abbrev cX4_init : ByteArray := prog_6_method_1_code
def yX4_init : MethodName := ⟨RX4, "<init>", "(III[I)V"⟩
abbrev cX4_gives : ByteArray := prog_6_method_2_code
def yX4_gives : MethodName := ⟨RX4, "gives", "(IIIII)I"⟩
abbrev cX4_began : ByteArray := prog_6_method_3_code
def yX4_began : MethodName := ⟨RX4, "began", "(I)V"⟩
abbrev cX4_darkens : ByteArray := prog_6_method_4_code
def yX4_darkens : MethodName := ⟨RX4, "darkens", "(I)I"⟩
abbrev cX4_pleads : ByteArray := prog_6_method_5_code
def yX4_pleads : MethodName := ⟨RX4, "pleads", "(I)I"⟩
abbrev cX4_tells : ByteArray := prog_6_method_6_code
def yX4_tells : MethodName := ⟨RX4, "tells", "(I)I"⟩
def RX5 : String := "EclipsesKept$Photo"
def TX5 : u_T := fun k => match k with
  | 0 => ("EclipsesKept$Need", "kind", "I", true)
  | 1 => ("EclipsesKept$Need", "number", "I", true)
  | 2 => ("EclipsesKept$Need", "v", "I", true)
  | _ => ("EclipsesKept$Need", "bodies", "[I", true)
def tyX5 : Nat → FieldType := fun k => match k with
  | 0 => .int
  | 1 => .int
  | 2 => .int
  | _ => .array .int
abbrev wsX50 : List Cond := u_ws RX5 TX5 4
theorem nmX5 : ∀ a, a < 4 → ∀ b, b < 4 → a ≠ b → (TX5 a).2.1 ≠ (TX5 b).2.1 := by decide +kernel
theorem tyX5_ok : ∀ k, k < 4 → parseFieldDescriptor (TX5 k).2.2.1 = some (tyX5 k) := by decide +kernel
abbrev cX5_init : ByteArray := prog_7_method_1_code
def yX5_init : MethodName := ⟨RX5, "<init>", "(III[I)V"⟩
abbrev cX5_gives : ByteArray := prog_7_method_2_code
def yX5_gives : MethodName := ⟨RX5, "gives", "(IIIII)I"⟩
abbrev cX5_tells : ByteArray := prog_7_method_3_code
def yX5_tells : MethodName := ⟨RX5, "tells", "(I)I"⟩
def RX6 : String := "EclipsesKept$Siege"
def TX6 : u_T := fun k => match k with
  | 0 => ("EclipsesKept$Need", "kind", "I", true)
  | 1 => ("EclipsesKept$Need", "number", "I", true)
  | 2 => ("EclipsesKept$Need", "v", "I", true)
  | _ => ("EclipsesKept$Need", "bodies", "[I", true)
def tyX6 : Nat → FieldType := fun k => match k with
  | 0 => .int
  | 1 => .int
  | 2 => .int
  | _ => .array .int
abbrev wsX60 : List Cond := u_ws RX6 TX6 4
theorem nmX6 : ∀ a, a < 4 → ∀ b, b < 4 → a ≠ b → (TX6 a).2.1 ≠ (TX6 b).2.1 := by decide +kernel
theorem tyX6_ok : ∀ k, k < 4 → parseFieldDescriptor (TX6 k).2.2.1 = some (tyX6 k) := by decide +kernel
abbrev cX6_init : ByteArray := prog_8_method_1_code
def yX6_init : MethodName := ⟨RX6, "<init>", "(III[I)V"⟩
abbrev cX6_gives : ByteArray := prog_8_method_2_code
def yX6_gives : MethodName := ⟨RX6, "gives", "(IIIII)I"⟩
abbrev cX6_pleads : ByteArray := prog_8_method_3_code
def yX6_pleads : MethodName := ⟨RX6, "pleads", "(I)I"⟩
def RX7 : String := "EclipsesKept$State"
def TX7 : u_T := fun k => match k with
  | 0 => ("EclipsesKept$State", "needs", "[LEclipsesKept$Need;", true)
  | 1 => ("EclipsesKept$State", "served", "[I", true)
  | 2 => ("EclipsesKept$State", "rows", "[I", true)
  | 3 => ("EclipsesKept$State", "century", "[I", true)
  | 4 => ("EclipsesKept$State", "seenNeed", "[I", true)
  | 5 => ("EclipsesKept$State", "seenWorth", "[I", true)
  | 6 => ("EclipsesKept$State", "seenAhead", "[I", true)
  | 7 => ("EclipsesKept$State", "bookNeed", "[I", true)
  | 8 => ("EclipsesKept$State", "bookServed", "[I", true)
  | 9 => ("EclipsesKept$State", "needCount", "I", false)
  | 10 => ("EclipsesKept$State", "centuryCount", "I", false)
  | 11 => ("EclipsesKept$State", "seenCount", "I", false)
  | 12 => ("EclipsesKept$State", "bookCount", "I", false)
  | 13 => ("EclipsesKept$State", "darks", "I", false)
  | 14 => ("EclipsesKept$State", "glory", "I", false)
  | 15 => ("EclipsesKept$State", "year", "I", false)
  | _ => ("EclipsesKept$State", "archive", "LEclipsesKept$Archive;", false)
def tyX7 : Nat → FieldType := fun k => match k with
  | 0 => .array (.object "EclipsesKept$Need")
  | 1 => .array .int
  | 2 => .array .int
  | 3 => .array .int
  | 4 => .array .int
  | 5 => .array .int
  | 6 => .array .int
  | 7 => .array .int
  | 8 => .array .int
  | 9 => .int
  | 10 => .int
  | 11 => .int
  | 12 => .int
  | 13 => .int
  | 14 => .int
  | 15 => .int
  | _ => .object "EclipsesKept$Archive"
abbrev wsX70 : List Cond := u_ws RX7 TX7 17
theorem nmX7 : ∀ a, a < 17 → ∀ b, b < 17 → a ≠ b → (TX7 a).2.1 ≠ (TX7 b).2.1 := by decide +kernel
theorem tyX7_ok : ∀ k, k < 17 → parseFieldDescriptor (TX7 k).2.2.1 = some (tyX7 k) := by decide +kernel
abbrev cX7_init : ByteArray := prog_9_method_1_code
def yX7_init : MethodName := ⟨RX7, "<init>", "()V"⟩
abbrev cX7_become : ByteArray := prog_9_method_2_code
def yX7_become : MethodName := ⟨RX7, "become", "(LEclipsesKept$State;)V"⟩
abbrev cX7_has : ByteArray := prog_9_method_3_code
def yX7_has : MethodName := ⟨RX7, "has", "(I)Z"⟩
abbrev cX7_needOf : ByteArray := prog_9_method_4_code
def yX7_needOf : MethodName := ⟨RX7, "needOf", "(I)LEclipsesKept$Need;"⟩
abbrev cX7_join : ByteArray := prog_9_method_5_code
def yX7_join : MethodName := ⟨RX7, "join", "(LEclipsesKept$Need;)I"⟩
abbrev cX7_keepCost : ByteArray := prog_9_method_6_code
def yX7_keepCost : MethodName := ⟨RX7, "keepCost", "()I"⟩
abbrev cX7_endYear : ByteArray := prog_9_method_7_code
def yX7_endYear : MethodName := ⟨RX7, "endYear", "(I)I"⟩
abbrev cX7_worthOf : ByteArray := prog_9_method_8_code
def yX7_worthOf : MethodName := ⟨RX7, "worthOf", "(III)I"⟩
abbrev cX7_worthBy : ByteArray := prog_9_method_9_code
def yX7_worthBy : MethodName := ⟨RX7, "worthBy", "(IIII)I"⟩
abbrev cX7_isAllSeen : ByteArray := prog_9_method_10_code
def yX7_isAllSeen : MethodName := ⟨RX7, "isAllSeen", "(III)Z"⟩
def RX8 : String := "EclipsesKept$Tape"
def TX8 : u_T := fun k => match k with
  | 0 => ("EclipsesKept$Tape", "items", "[J", true)
  | 1 => ("EclipsesKept$Tape", "sort", "I", false)
  | _ => ("EclipsesKept$Tape", "length", "I", false)
def tyX8 : Nat → FieldType := fun k => match k with
  | 0 => .array .long
  | 1 => .int
  | _ => .int
abbrev wsX80 : List Cond := u_ws RX8 TX8 3
theorem nmX8 : ∀ a, a < 3 → ∀ b, b < 3 → a ≠ b → (TX8 a).2.1 ≠ (TX8 b).2.1 := by decide +kernel
theorem tyX8_ok : ∀ k, k < 3 → parseFieldDescriptor (TX8 k).2.2.1 = some (tyX8 k) := by decide +kernel
abbrev cX8_init : ByteArray := prog_10_method_1_code
def yX8_init : MethodName := ⟨RX8, "<init>", "()V"⟩
abbrev cX8_holds : ByteArray := prog_10_method_2_code
def yX8_holds : MethodName := ⟨RX8, "holds", "()Z"⟩
abbrev cX8_become : ByteArray := prog_10_method_3_code
def yX8_become : MethodName := ⟨RX8, "become", "(II)V"⟩
abbrev cX8_hasPlace : ByteArray := prog_10_method_4_code
def yX8_hasPlace : MethodName := ⟨RX8, "hasPlace", "(I)Z"⟩
abbrev cX8_hasRun : ByteArray := prog_10_method_5_code
def yX8_hasRun : MethodName := ⟨RX8, "hasRun", "(II)Z"⟩
abbrev cX8_narrowed : ByteArray := prog_10_method_6_code
def yX8_narrowed : MethodName := ⟨RX8, "narrowed", "(J)J"⟩
def RX9 : String := "EclipsesKept$Told"
def TX9 : u_T := fun k => match k with
  | 0 => ("EclipsesKept$Need", "kind", "I", true)
  | 1 => ("EclipsesKept$Need", "number", "I", true)
  | 2 => ("EclipsesKept$Need", "v", "I", true)
  | _ => ("EclipsesKept$Need", "bodies", "[I", true)
def tyX9 : Nat → FieldType := fun k => match k with
  | 0 => .int
  | 1 => .int
  | 2 => .int
  | _ => .array .int
abbrev wsX90 : List Cond := u_ws RX9 TX9 4
theorem nmX9 : ∀ a, a < 4 → ∀ b, b < 4 → a ≠ b → (TX9 a).2.1 ≠ (TX9 b).2.1 := by decide +kernel
theorem tyX9_ok : ∀ k, k < 4 → parseFieldDescriptor (TX9 k).2.2.1 = some (tyX9 k) := by decide +kernel
abbrev cX9_init : ByteArray := prog_11_method_1_code
def yX9_init : MethodName := ⟨RX9, "<init>", "(III[I)V"⟩
abbrev cX9_gives : ByteArray := prog_11_method_2_code
def yX9_gives : MethodName := ⟨RX9, "gives", "(IIIII)I"⟩
abbrev cX9_pleads : ByteArray := prog_11_method_3_code
def yX9_pleads : MethodName := ⟨RX9, "pleads", "(I)I"⟩
abbrev cX9_darkens : ByteArray := prog_11_method_4_code
def yX9_darkens : MethodName := ⟨RX9, "darkens", "(I)I"⟩
def RX10 : String := "EclipsesKept$Years"
def TX10 : u_T := fun k => match k with
  | 0 => ("EclipsesKept$Years", "worths", "[I", true)
  | 1 => ("EclipsesKept$Years", "ways", "[J", true)
  | 2 => ("EclipsesKept$Years", "totals", "[[J", true)
  | 3 => ("EclipsesKept$Years", "spentWays", "[[J", true)
  | 4 => ("EclipsesKept$Years", "needs", "I", false)
  | 5 => ("EclipsesKept$Years", "mostDarks", "I", false)
  | 6 => ("EclipsesKept$Years", "keep", "I", false)
  | _ => ("EclipsesKept$Years", "ahead", "I", false)
def tyX10 : Nat → FieldType := fun k => match k with
  | 0 => .array .int
  | 1 => .array .long
  | 2 => .array (.array .long)
  | 3 => .array (.array .long)
  | 4 => .int
  | 5 => .int
  | 6 => .int
  | _ => .int
abbrev wsX100 : List Cond := u_ws RX10 TX10 8
theorem nmX10 : ∀ a, a < 8 → ∀ b, b < 8 → a ≠ b → (TX10 a).2.1 ≠ (TX10 b).2.1 := by decide +kernel
theorem tyX10_ok : ∀ k, k < 8 → parseFieldDescriptor (TX10 k).2.2.1 = some (tyX10 k) := by decide +kernel
abbrev cX10_init : ByteArray := prog_12_method_1_code
def yX10_init : MethodName := ⟨RX10, "<init>", "()V"⟩
abbrev cX10_look : ByteArray := prog_12_method_2_code
def yX10_look : MethodName := ⟨RX10, "look", "(LEclipsesKept$State;II)V"⟩
abbrev cX10_place : ByteArray := prog_12_method_3_code
def yX10_place : MethodName := ⟨RX10, "place", "(III)I"⟩
abbrev cX10_ask : ByteArray := prog_12_method_4_code
def yX10_ask : MethodName := ⟨RX10, "ask", "(LEclipsesKept$State;IIII)V"⟩
abbrev cX10_weigh : ByteArray := prog_12_method_5_code
def yX10_weigh : MethodName := ⟨RX10, "weigh", "(III)V"⟩
abbrev cX10_weighYear : ByteArray := prog_12_method_6_code
def yX10_weighYear : MethodName := ⟨RX10, "weighYear", "(IIII)J"⟩
abbrev cX10_serves : ByteArray := prog_12_method_7_code
def yX10_serves : MethodName := ⟨RX10, "serves", "(IIIII)Z"⟩
abbrev cX10_ifServed : ByteArray := prog_12_method_8_code
def yX10_ifServed : MethodName := ⟨RX10, "ifServed", "(III)J"⟩
abbrev cX10_ifSpared : ByteArray := prog_12_method_9_code
def yX10_ifSpared : MethodName := ⟨RX10, "ifSpared", "(II)J"⟩
abbrev cX10_bestSet : ByteArray := prog_12_method_10_code
def yX10_bestSet : MethodName := ⟨RX10, "bestSet", "(II)I"⟩
abbrev cX10_waysToSpend : ByteArray := prog_12_method_11_code
def yX10_waysToSpend : MethodName := ⟨RX10, "waysToSpend", "(II)J"⟩
abbrev cX10_leastWise : ByteArray := prog_12_method_12_code
def yX10_leastWise : MethodName := ⟨RX10, "leastWise", "(II)J"⟩
abbrev cX10_bestPlan : ByteArray := prog_12_method_13_code
def yX10_bestPlan : MethodName := ⟨RX10, "bestPlan", "(LEclipsesKept$State;)I"⟩
abbrev cX10_gain : ByteArray := prog_12_method_14_code
def yX10_gain : MethodName := ⟨RX10, "gain", "(LEclipsesKept$State;I)I"⟩
def RX11 : String := "EclipsesKept"
def TX11 : u_T := fun k => match k with
  | 0 => ("EclipsesKept", "state", "LEclipsesKept$State;", true)
  | 1 => ("EclipsesKept", "kept", "LEclipsesKept$State;", true)
  | 2 => ("EclipsesKept", "years", "LEclipsesKept$Years;", true)
  | 3 => ("EclipsesKept", "tapes", "[LEclipsesKept$Tape;", true)
  | 4 => ("EclipsesKept", "text", "Ljava/lang/StringBuilder;", true)
  | 5 => ("EclipsesKept", "bodies", "[I", true)
  | 6 => ("EclipsesKept", "archives", "I", false)
  | _ => ("EclipsesKept", "imaged", "Z", false)
def tyX11 : Nat → FieldType := fun k => match k with
  | 0 => .object "EclipsesKept$State"
  | 1 => .object "EclipsesKept$State"
  | 2 => .object "EclipsesKept$Years"
  | 3 => .array (.object "EclipsesKept$Tape")
  | 4 => .object "java/lang/StringBuilder"
  | 5 => .array .int
  | 6 => .int
  | _ => .boolean
abbrev wsX110 : List Cond := u_ws RX11 TX11 8
theorem nmX11 : ∀ a, a < 8 → ∀ b, b < 8 → a ≠ b → (TX11 a).2.1 ≠ (TX11 b).2.1 := by decide +kernel
theorem tyX11_ok : ∀ k, k < 8 → parseFieldDescriptor (TX11 k).2.2.1 = some (tyX11 k) := by decide +kernel
abbrev cX11_init : ByteArray := prog_1_method_1_code
def yX11_init : MethodName := ⟨RX11, "<init>", "()V"⟩
abbrev cX11_need : ByteArray := prog_1_method_2_code
def yX11_need : MethodName := ⟨RX11, "need", "(II)I"⟩
abbrev cX11_of : ByteArray := prog_1_method_3_code
def yX11_of : MethodName := ⟨RX11, "of", "(II)I"⟩
abbrev cX11_worth : ByteArray := prog_1_method_4_code
def yX11_worth : MethodName := ⟨RX11, "worth", "(III)I"⟩
abbrev cX11_serve : ByteArray := prog_1_method_5_code
def yX11_serve : MethodName := ⟨RX11, "serve", "(I)I"⟩
abbrev cX11_spare : ByteArray := prog_1_method_6_code
def yX11_spare : MethodName := ⟨RX11, "spare", "(I)I"⟩
abbrev cX11_darks : ByteArray := prog_1_method_7_code
def yX11_darks : MethodName := ⟨RX11, "darks", "(I)I"⟩
abbrev cX11_row : ByteArray := prog_1_method_8_code
def yX11_row : MethodName := ⟨RX11, "row", "(III)I"⟩
abbrev cX11_feed : ByteArray := prog_1_method_9_code
def yX11_feed : MethodName := ⟨RX11, "feed", "(I)I"⟩
abbrev cX11_archive : ByteArray := prog_1_method_10_code
def yX11_archive : MethodName := ⟨RX11, "archive", "()I"⟩
abbrev cX11_told : ByteArray := prog_1_method_11_code
def yX11_told : MethodName := ⟨RX11, "told", "(I)I"⟩
abbrev cX11_mean : ByteArray := prog_1_method_12_code
def yX11_mean : MethodName := ⟨RX11, "mean", "(II)J"⟩
abbrev cX11_wise : ByteArray := prog_1_method_13_code
def yX11_wise : MethodName := ⟨RX11, "wise", "(II)I"⟩
abbrev cX11_price : ByteArray := prog_1_method_14_code
def yX11_price : MethodName := ⟨RX11, "price", "(II)J"⟩
abbrev cX11_greedy : ByteArray := prog_1_method_15_code
def yX11_greedy : MethodName := ⟨RX11, "greedy", "(II)J"⟩
abbrev cX11_only : ByteArray := prog_1_method_16_code
def yX11_only : MethodName := ⟨RX11, "only", "(III)J"⟩
abbrev cX11_chosen : ByteArray := prog_1_method_17_code
def yX11_chosen : MethodName := ⟨RX11, "chosen", "(I)I"⟩
abbrev cX11_spent : ByteArray := prog_1_method_18_code
def yX11_spent : MethodName := ⟨RX11, "spent", "(II)J"⟩
abbrev cX11_threshold : ByteArray := prog_1_method_19_code
def yX11_threshold : MethodName := ⟨RX11, "threshold", "(I)I"⟩
abbrev cX11_century : ByteArray := prog_1_method_20_code
def yX11_century : MethodName := ⟨RX11, "century", "(I)I"⟩
abbrev cX11_plan : ByteArray := prog_1_method_21_code
def yX11_plan : MethodName := ⟨RX11, "plan", "(I)I"⟩
abbrev cX11_ends : ByteArray := prog_1_method_22_code
def yX11_ends : MethodName := ⟨RX11, "ends", "(I)I"⟩
abbrev cX11_see : ByteArray := prog_1_method_23_code
def yX11_see : MethodName := ⟨RX11, "see", "(III)I"⟩
abbrev cX11_can : ByteArray := prog_1_method_24_code
def yX11_can : MethodName := ⟨RX11, "can", "(II)I"⟩
abbrev cX11_darked : ByteArray := prog_1_method_25_code
def yX11_darked : MethodName := ⟨RX11, "darked", "(I)I"⟩
abbrev cX11_book : ByteArray := prog_1_method_26_code
def yX11_book : MethodName := ⟨RX11, "book", "(II)I"⟩
abbrev cX11_looked : ByteArray := prog_1_method_27_code
def yX11_looked : MethodName := ⟨RX11, "looked", "()I"⟩
abbrev cX11_judge : ByteArray := prog_1_method_28_code
def yX11_judge : MethodName := ⟨RX11, "judge", "(II)I"⟩
abbrev cX11_image : ByteArray := prog_1_method_29_code
def yX11_image : MethodName := ⟨RX11, "image", "()I"⟩
abbrev cX11_undo : ByteArray := prog_1_method_30_code
def yX11_undo : MethodName := ⟨RX11, "undo", "()I"⟩
abbrev cX11_act : ByteArray := prog_1_method_31_code
def yX11_act : MethodName := ⟨RX11, "act", "(III)I"⟩
abbrev cX11_trace : ByteArray := prog_1_method_32_code
def yX11_trace : MethodName := ⟨RX11, "trace", "(I)I"⟩
abbrev cX11_taken : ByteArray := prog_1_method_33_code
def yX11_taken : MethodName := ⟨RX11, "taken", "(II)I"⟩
abbrev cX11_count : ByteArray := prog_1_method_34_code
def yX11_count : MethodName := ⟨RX11, "count", "(I)I"⟩
abbrev cX11_tape : ByteArray := prog_1_method_35_code
def yX11_tape : MethodName := ⟨RX11, "tape", "(III)I"⟩
abbrev cX11_item : ByteArray := prog_1_method_36_code
def yX11_item : MethodName := ⟨RX11, "item", "(IIJ)I"⟩
abbrev cX11_read : ByteArray := prog_1_method_37_code
def yX11_read : MethodName := ⟨RX11, "read", "(II)J"⟩
abbrev cX11_shift : ByteArray := prog_1_method_38_code
def yX11_shift : MethodName := ⟨RX11, "shift", "(IIIII)I"⟩
abbrev cX11_isWithin : ByteArray := prog_1_method_39_code
def yX11_isWithin : MethodName := ⟨RX11, "isWithin", "(II)Z"⟩
abbrev cX11_isAsked : ByteArray := prog_1_method_40_code
def yX11_isAsked : MethodName := ⟨RX11, "isAsked", "(II)Z"⟩
abbrev cX11_onTheMean : ByteArray := prog_1_method_41_code
def yX11_onTheMean : MethodName := ⟨RX11, "onTheMean", "(IIII)J"⟩
abbrev cX11_tapeOf : ByteArray := prog_1_method_42_code
def yX11_tapeOf : MethodName := ⟨RX11, "tapeOf", "(I)LEclipsesKept$Tape;"⟩
abbrev cX11_made : ByteArray := prog_1_method_43_code
def yX11_made : MethodName := ⟨RX11, "made", "(III)LEclipsesKept$Need;"⟩
abbrev cX11_isOfKind : ByteArray := prog_1_method_44_code
def yX11_isOfKind : MethodName := ⟨RX11, "isOfKind", "(LEclipsesKept$Need;I)Z"⟩
abbrev cX11_fraction : ByteArray := prog_1_method_45_code
def yX11_fraction : MethodName := ⟨RX11, "fraction", "(JJI)J"⟩
abbrev cX11_commonOf : ByteArray := prog_1_method_46_code
def yX11_commonOf : MethodName := ⟨RX11, "commonOf", "(JJ)J"⟩
def RX12 : String := "EclipsesKeptModel"
def TX12 : u_T := fun k => match k with
  | 0 => ("EclipsesKeptModel", "needs", "I", false)
  | 1 => ("EclipsesKeptModel", "dark", "I", false)
  | 2 => ("EclipsesKeptModel", "glory", "I", false)
  | 3 => ("EclipsesKeptModel", "year", "I", false)
  | 4 => ("EclipsesKeptModel", "kind", "[I", true)
  | 5 => ("EclipsesKeptModel", "v", "[I", true)
  | 6 => ("EclipsesKeptModel", "served", "[I", true)
  | 7 => ("EclipsesKeptModel", "rows", "[I", true)
  | 8 => ("EclipsesKeptModel", "archives", "I", false)
  | 9 => ("EclipsesKeptModel", "the", "I", false)
  | 10 => ("EclipsesKeptModel", "fed", "I", false)
  | 11 => ("EclipsesKeptModel", "at", "I", false)
  | 12 => ("EclipsesKeptModel", "digits", "I", false)
  | 13 => ("EclipsesKeptModel", "text", "[I", true)
  | 14 => ("EclipsesKeptModel", "clauses", "[I", true)
  | 15 => ("EclipsesKeptModel", "word", "[I", true)
  | 16 => ("EclipsesKeptModel", "number", "[I", true)
  | 17 => ("EclipsesKeptModel", "from", "[I", true)
  | 18 => ("EclipsesKeptModel", "to", "[I", true)
  | 19 => ("EclipsesKeptModel", "sign", "[I", true)
  | 20 => ("EclipsesKeptModel", "waits", "[I", true)
  | 21 => ("EclipsesKeptModel", "signs", "I", false)
  | 22 => ("EclipsesKeptModel", "waiting", "I", false)
  | 23 => ("EclipsesKeptModel", "open", "I", false)
  | 24 => ("EclipsesKeptModel", "letters", "[I", true)
  | 25 => ("EclipsesKeptModel", "pile", "[Z", true)
  | 26 => ("EclipsesKeptModel", "gain", "[J", true)
  | 27 => ("EclipsesKeptModel", "chosenSet", "I", false)
  | 28 => ("EclipsesKeptModel", "out", "[J", true)
  | 29 => ("EclipsesKeptModel", "comes", "I", false)
  | 30 => ("EclipsesKeptModel", "comesNeed", "[I", true)
  | 31 => ("EclipsesKeptModel", "seen", "I", false)
  | 32 => ("EclipsesKeptModel", "books", "I", false)
  | 33 => ("EclipsesKeptModel", "seenNeed", "[I", true)
  | 34 => ("EclipsesKeptModel", "seenWorth", "[I", true)
  | 35 => ("EclipsesKeptModel", "seenWhen", "[I", true)
  | 36 => ("EclipsesKeptModel", "bookNeed", "[I", true)
  | 37 => ("EclipsesKeptModel", "bookServed", "[I", true)
  | 38 => ("EclipsesKeptModel", "hasImage", "Z", false)
  | 39 => ("EclipsesKeptModel", "imageThe", "I", false)
  | 40 => ("EclipsesKeptModel", "imageNeeds", "I", false)
  | 41 => ("EclipsesKeptModel", "imageDark", "I", false)
  | 42 => ("EclipsesKeptModel", "imageGlory", "I", false)
  | 43 => ("EclipsesKeptModel", "imageYear", "I", false)
  | 44 => ("EclipsesKeptModel", "imageComes", "I", false)
  | 45 => ("EclipsesKeptModel", "imageSeen", "I", false)
  | 46 => ("EclipsesKeptModel", "imageBooks", "I", false)
  | 47 => ("EclipsesKeptModel", "imageKind", "[I", true)
  | 48 => ("EclipsesKeptModel", "imageV", "[I", true)
  | 49 => ("EclipsesKeptModel", "imageServed", "[I", true)
  | 50 => ("EclipsesKeptModel", "imageRows", "[I", true)
  | 51 => ("EclipsesKeptModel", "imageComesNeed", "[I", true)
  | 52 => ("EclipsesKeptModel", "imageSeenNeed", "[I", true)
  | 53 => ("EclipsesKeptModel", "imageWorth", "[I", true)
  | 54 => ("EclipsesKeptModel", "imageWhen", "[I", true)
  | 55 => ("EclipsesKeptModel", "imageBookNeed", "[I", true)
  | 56 => ("EclipsesKeptModel", "imageBookServed", "[I", true)
  | 57 => ("EclipsesKeptModel", "ran", "I", false)
  | 58 => ("EclipsesKeptModel", "bodies", "[I", true)
  | 59 => ("EclipsesKeptModel", "sort", "[I", true)
  | 60 => ("EclipsesKeptModel", "length", "[I", true)
  | 61 => ("EclipsesKeptModel", "item", "[J", true)
  | _ => ("EclipsesKeptModel", "aside", "[J", true)
def tyX12 : Nat → FieldType := fun k => match k with
  | 0 => .int
  | 1 => .int
  | 2 => .int
  | 3 => .int
  | 4 => .array .int
  | 5 => .array .int
  | 6 => .array .int
  | 7 => .array .int
  | 8 => .int
  | 9 => .int
  | 10 => .int
  | 11 => .int
  | 12 => .int
  | 13 => .array .int
  | 14 => .array .int
  | 15 => .array .int
  | 16 => .array .int
  | 17 => .array .int
  | 18 => .array .int
  | 19 => .array .int
  | 20 => .array .int
  | 21 => .int
  | 22 => .int
  | 23 => .int
  | 24 => .array .int
  | 25 => .array .boolean
  | 26 => .array .long
  | 27 => .int
  | 28 => .array .long
  | 29 => .int
  | 30 => .array .int
  | 31 => .int
  | 32 => .int
  | 33 => .array .int
  | 34 => .array .int
  | 35 => .array .int
  | 36 => .array .int
  | 37 => .array .int
  | 38 => .boolean
  | 39 => .int
  | 40 => .int
  | 41 => .int
  | 42 => .int
  | 43 => .int
  | 44 => .int
  | 45 => .int
  | 46 => .int
  | 47 => .array .int
  | 48 => .array .int
  | 49 => .array .int
  | 50 => .array .int
  | 51 => .array .int
  | 52 => .array .int
  | 53 => .array .int
  | 54 => .array .int
  | 55 => .array .int
  | 56 => .array .int
  | 57 => .int
  | 58 => .array .int
  | 59 => .array .int
  | 60 => .array .int
  | 61 => .array .long
  | _ => .array .long
abbrev wsX120 : List Cond := u_ws RX12 TX12 63
theorem nmX12 : ∀ a, a < 63 → ∀ b, b < 63 → a ≠ b → (TX12 a).2.1 ≠ (TX12 b).2.1 := by decide +kernel
theorem tyX12_ok : ∀ k, k < 63 → parseFieldDescriptor (TX12 k).2.2.1 = some (tyX12 k) := by decide +kernel
abbrev cX12_init : ByteArray := prog_14_method_1_code
def yX12_init : MethodName := ⟨RX12, "<init>", "()V"⟩
abbrev cX12_in : ByteArray := prog_14_method_2_code
def yX12_in : MethodName := ⟨RX12, "in", "(III)Z"⟩
abbrev cX12_has : ByteArray := prog_14_method_3_code
def yX12_has : MethodName := ⟨RX12, "has", "(II)Z"⟩
abbrev cX12_bits : ByteArray := prog_14_method_4_code
def yX12_bits : MethodName := ⟨RX12, "bits", "(I)I"⟩
abbrev cX12_isNeed : ByteArray := prog_14_method_5_code
def yX12_isNeed : MethodName := ⟨RX12, "isNeed", "(I)Z"⟩
abbrev cX12_isDarks : ByteArray := prog_14_method_6_code
def yX12_isDarks : MethodName := ⟨RX12, "isDarks", "(I)Z"⟩
abbrev cX12_need : ByteArray := prog_14_method_7_code
def yX12_need : MethodName := ⟨RX12, "need", "(II)I"⟩
abbrev cX12_darks : ByteArray := prog_14_method_8_code
def yX12_darks : MethodName := ⟨RX12, "darks", "(I)I"⟩
abbrev cX12_row : ByteArray := prog_14_method_9_code
def yX12_row : MethodName := ⟨RX12, "row", "(III)I"⟩
abbrev cX12_feed : ByteArray := prog_14_method_10_code
def yX12_feed : MethodName := ⟨RX12, "feed", "(I)I"⟩
abbrev cX12_next : ByteArray := prog_14_method_11_code
def yX12_next : MethodName := ⟨RX12, "next", "()I"⟩
abbrev cX12_takes : ByteArray := prog_14_method_12_code
def yX12_takes : MethodName := ⟨RX12, "takes", "(I)Z"⟩
abbrev cX12_takesWord : ByteArray := prog_14_method_13_code
def yX12_takesWord : MethodName := ⟨RX12, "takesWord", "(II)Z"⟩
abbrev cX12_isDigit : ByteArray := prog_14_method_14_code
def yX12_isDigit : MethodName := ⟨RX12, "isDigit", "()Z"⟩
abbrev cX12_takesNumber : ByteArray := prog_14_method_15_code
def yX12_takesNumber : MethodName := ⟨RX12, "takesNumber", "()Z"⟩
abbrev cX12_emits : ByteArray := prog_14_method_16_code
def yX12_emits : MethodName := ⟨RX12, "emits", "(I)V"⟩
abbrev cX12_whole : ByteArray := prog_14_method_17_code
def yX12_whole : MethodName := ⟨RX12, "whole", "()V"⟩
abbrev cX12_settle : ByteArray := prog_14_method_18_code
def yX12_settle : MethodName := ⟨RX12, "settle", "(I)V"⟩
abbrev cX12_place : ByteArray := prog_14_method_19_code
def yX12_place : MethodName := ⟨RX12, "place", "(I)I"⟩
abbrev cX12_takesTest : ByteArray := prog_14_method_20_code
def yX12_takesTest : MethodName := ⟨RX12, "takesTest", "()Z"⟩
abbrev cX12_takesE : ByteArray := prog_14_method_21_code
def yX12_takesE : MethodName := ⟨RX12, "takesE", "(I)Z"⟩
abbrev cX12_takesHead : ByteArray := prog_14_method_22_code
def yX12_takesHead : MethodName := ⟨RX12, "takesHead", "(I)Z"⟩
abbrev cX12_takesClause : ByteArray := prog_14_method_23_code
def yX12_takesClause : MethodName := ⟨RX12, "takesClause", "(I)Z"⟩
abbrev cX12_goesText : ByteArray := prog_14_method_24_code
def yX12_goesText : MethodName := ⟨RX12, "goesText", "(I)Z"⟩
abbrev cX12_archive : ByteArray := prog_14_method_25_code
def yX12_archive : MethodName := ⟨RX12, "archive", "()I"⟩
abbrev cX12_begin : ByteArray := prog_14_method_26_code
def yX12_begin : MethodName := ⟨RX12, "begin", "()I"⟩
abbrev cX12_behind : ByteArray := prog_14_method_27_code
def yX12_behind : MethodName := ⟨RX12, "behind", "()I"⟩
abbrev cX12_keep : ByteArray := prog_14_method_28_code
def yX12_keep : MethodName := ⟨RX12, "keep", "()I"⟩
abbrev cX12_factOf : ByteArray := prog_14_method_29_code
def yX12_factOf : MethodName := ⟨RX12, "factOf", "(IIII)I"⟩
abbrev cX12_holds : ByteArray := prog_14_method_30_code
def yX12_holds : MethodName := ⟨RX12, "holds", "(IIII)Z"⟩
abbrev cX12_base : ByteArray := prog_14_method_31_code
def yX12_base : MethodName := ⟨RX12, "base", "(III)I"⟩
abbrev cX12_worthOf : ByteArray := prog_14_method_32_code
def yX12_worthOf : MethodName := ⟨RX12, "worthOf", "(III)I"⟩
abbrev cX12_of : ByteArray := prog_14_method_33_code
def yX12_of : MethodName := ⟨RX12, "of", "(II)I"⟩
abbrev cX12_worth : ByteArray := prog_14_method_34_code
def yX12_worth : MethodName := ⟨RX12, "worth", "(III)I"⟩
abbrev cX12_held : ByteArray := prog_14_method_35_code
def yX12_held : MethodName := ⟨RX12, "held", "(I)I"⟩
abbrev cX12_serve : ByteArray := prog_14_method_36_code
def yX12_serve : MethodName := ⟨RX12, "serve", "(I)I"⟩
abbrev cX12_spare : ByteArray := prog_14_method_37_code
def yX12_spare : MethodName := ⟨RX12, "spare", "(I)I"⟩
abbrev cX12_told : ByteArray := prog_14_method_38_code
def yX12_told : MethodName := ⟨RX12, "told", "(I)I"⟩
abbrev cX12_ways : ByteArray := prog_14_method_39_code
def yX12_ways : MethodName := ⟨RX12, "ways", "(I)J"⟩
abbrev cX12_ifServed : ByteArray := prog_14_method_40_code
def yX12_ifServed : MethodName := ⟨RX12, "ifServed", "(IIII)J"⟩
abbrev cX12_ifSpared : ByteArray := prog_14_method_41_code
def yX12_ifSpared : MethodName := ⟨RX12, "ifSpared", "(III)J"⟩
abbrev cX12_gainOf : ByteArray := prog_14_method_42_code
def yX12_gainOf : MethodName := ⟨RX12, "gainOf", "(IIIII)J"⟩
abbrev cX12_layGains : ByteArray := prog_14_method_43_code
def yX12_layGains : MethodName := ⟨RX12, "layGains", "(II)V"⟩
abbrev cX12_divisor : ByteArray := prog_14_method_44_code
def yX12_divisor : MethodName := ⟨RX12, "divisor", "(JJ)J"⟩
abbrev cX12_lowest : ByteArray := prog_14_method_45_code
def yX12_lowest : MethodName := ⟨RX12, "lowest", "(JJI)J"⟩
abbrev cX12_isYears : ByteArray := prog_14_method_46_code
def yX12_isYears : MethodName := ⟨RX12, "isYears", "(I)Z"⟩
abbrev cX12_isAsked : ByteArray := prog_14_method_47_code
def yX12_isAsked : MethodName := ⟨RX12, "isAsked", "(II)Z"⟩
abbrev cX12_mean : ByteArray := prog_14_method_48_code
def yX12_mean : MethodName := ⟨RX12, "mean", "(II)J"⟩
abbrev cX12_price : ByteArray := prog_14_method_49_code
def yX12_price : MethodName := ⟨RX12, "price", "(II)J"⟩
abbrev cX12_greedy : ByteArray := prog_14_method_50_code
def yX12_greedy : MethodName := ⟨RX12, "greedy", "(II)J"⟩
abbrev cX12_only : ByteArray := prog_14_method_51_code
def yX12_only : MethodName := ⟨RX12, "only", "(III)J"⟩
abbrev cX12_chosen : ByteArray := prog_14_method_52_code
def yX12_chosen : MethodName := ⟨RX12, "chosen", "(I)I"⟩
abbrev cX12_wise : ByteArray := prog_14_method_53_code
def yX12_wise : MethodName := ⟨RX12, "wise", "(II)I"⟩
abbrev cX12_spent : ByteArray := prog_14_method_54_code
def yX12_spent : MethodName := ⟨RX12, "spent", "(II)J"⟩
abbrev cX12_threshold : ByteArray := prog_14_method_55_code
def yX12_threshold : MethodName := ⟨RX12, "threshold", "(I)I"⟩
abbrev cX12_century : ByteArray := prog_14_method_56_code
def yX12_century : MethodName := ⟨RX12, "century", "(I)I"⟩
abbrev cX12_gainBy : ByteArray := prog_14_method_57_code
def yX12_gainBy : MethodName := ⟨RX12, "gainBy", "(I)I"⟩
abbrev cX12_bestSet : ByteArray := prog_14_method_58_code
def yX12_bestSet : MethodName := ⟨RX12, "bestSet", "()I"⟩
abbrev cX12_plan : ByteArray := prog_14_method_59_code
def yX12_plan : MethodName := ⟨RX12, "plan", "(I)I"⟩
abbrev cX12_ends : ByteArray := prog_14_method_60_code
def yX12_ends : MethodName := ⟨RX12, "ends", "(I)I"⟩
abbrev cX12_see : ByteArray := prog_14_method_61_code
def yX12_see : MethodName := ⟨RX12, "see", "(III)I"⟩
abbrev cX12_isSeen : ByteArray := prog_14_method_62_code
def yX12_isSeen : MethodName := ⟨RX12, "isSeen", "(I)Z"⟩
abbrev cX12_can : ByteArray := prog_14_method_63_code
def yX12_can : MethodName := ⟨RX12, "can", "(II)I"⟩
abbrev cX12_darked : ByteArray := prog_14_method_64_code
def yX12_darked : MethodName := ⟨RX12, "darked", "(I)I"⟩
abbrev cX12_book : ByteArray := prog_14_method_65_code
def yX12_book : MethodName := ⟨RX12, "book", "(II)I"⟩
abbrev cX12_looked : ByteArray := prog_14_method_66_code
def yX12_looked : MethodName := ⟨RX12, "looked", "()I"⟩
abbrev cX12_judge : ByteArray := prog_14_method_67_code
def yX12_judge : MethodName := ⟨RX12, "judge", "(II)I"⟩
abbrev cX12_image : ByteArray := prog_14_method_68_code
def yX12_image : MethodName := ⟨RX12, "image", "()I"⟩
abbrev cX12_undo : ByteArray := prog_14_method_69_code
def yX12_undo : MethodName := ⟨RX12, "undo", "()I"⟩
abbrev cX12_body : ByteArray := prog_14_method_70_code
def yX12_body : MethodName := ⟨RX12, "body", "(I)V"⟩
abbrev cX12_needDarkens : ByteArray := prog_14_method_71_code
def yX12_needDarkens : MethodName := ⟨RX12, "needDarkens", "(II)I"⟩
abbrev cX12_darkensAct : ByteArray := prog_14_method_72_code
def yX12_darkensAct : MethodName := ⟨RX12, "darkensAct", "(II)I"⟩
abbrev cX12_needPleads : ByteArray := prog_14_method_73_code
def yX12_needPleads : MethodName := ⟨RX12, "needPleads", "(II)I"⟩
abbrev cX12_siegePleads : ByteArray := prog_14_method_74_code
def yX12_siegePleads : MethodName := ⟨RX12, "siegePleads", "(II)I"⟩
abbrev cX12_pleadsAct : ByteArray := prog_14_method_75_code
def yX12_pleadsAct : MethodName := ⟨RX12, "pleadsAct", "(II)I"⟩
abbrev cX12_needTells : ByteArray := prog_14_method_76_code
def yX12_needTells : MethodName := ⟨RX12, "needTells", "(II)I"⟩
abbrev cX12_tellsAct : ByteArray := prog_14_method_77_code
def yX12_tellsAct : MethodName := ⟨RX12, "tellsAct", "(II)I"⟩
abbrev cX12_act : ByteArray := prog_14_method_78_code
def yX12_act : MethodName := ⟨RX12, "act", "(III)I"⟩
abbrev cX12_trace : ByteArray := prog_14_method_79_code
def yX12_trace : MethodName := ⟨RX12, "trace", "(I)I"⟩
abbrev cX12_taken : ByteArray := prog_14_method_80_code
def yX12_taken : MethodName := ⟨RX12, "taken", "(II)I"⟩
abbrev cX12_count : ByteArray := prog_14_method_81_code
def yX12_count : MethodName := ⟨RX12, "count", "(I)I"⟩
abbrev cX12_isTape : ByteArray := prog_14_method_82_code
def yX12_isTape : MethodName := ⟨RX12, "isTape", "(I)Z"⟩
abbrev cX12_tape : ByteArray := prog_14_method_83_code
def yX12_tape : MethodName := ⟨RX12, "tape", "(III)I"⟩
abbrev cX12_narrow : ByteArray := prog_14_method_84_code
def yX12_narrow : MethodName := ⟨RX12, "narrow", "(IJ)J"⟩
abbrev cX12_item : ByteArray := prog_14_method_85_code
def yX12_item : MethodName := ⟨RX12, "item", "(IIJ)I"⟩
abbrev cX12_read : ByteArray := prog_14_method_86_code
def yX12_read : MethodName := ⟨RX12, "read", "(II)J"⟩
abbrev cX12_shift : ByteArray := prog_14_method_87_code
def yX12_shift : MethodName := ⟨RX12, "shift", "(IIIII)I"⟩
def RJ5 : String := "java/lang/AbstractStringBuilder"
def TJ5 : u_T := fun k => match k with
  | _ => ("", "", "", false)
def tyJ5 : Nat → FieldType := fun k => match k with
  | _ => .int
abbrev wsJ50 : List Cond := u_ws RJ5 TJ5 0
theorem nmJ5 : ∀ a, a < 0 → ∀ b, b < 0 → a ≠ b → (TJ5 a).2.1 ≠ (TJ5 b).2.1 := by decide +kernel
theorem tyJ5_ok : ∀ k, k < 0 → parseFieldDescriptor (TJ5 k).2.2.1 = some (tyJ5 k) := by decide +kernel
abbrev cJ5_init_d00df : ByteArray := prog_15_method_2_code
def yJ5_init_d00df : MethodName := ⟨RJ5, "<init>", "(I)V"⟩
abbrev cJ5_length_8abf5 : ByteArray := prog_15_method_6_code
def yJ5_length_8abf5 : MethodName := ⟨RJ5, "length", "()I"⟩
abbrev cJ5_ensureCapacityInternal_d00df : ByteArray := prog_15_method_9_code
def yJ5_ensureCapacityInternal_d00df : MethodName := ⟨RJ5, "ensureCapacityInternal", "(I)V"⟩
abbrev cJ5_newCapacity_0f7a4 : ByteArray := prog_15_method_10_code
def yJ5_newCapacity_0f7a4 : MethodName := ⟨RJ5, "newCapacity", "(I)I"⟩
abbrev cJ5_inflate_da8c8 : ByteArray := prog_15_method_11_code
def yJ5_inflate_da8c8 : MethodName := ⟨RJ5, "inflate", "()V"⟩
abbrev cJ5_setLength_d00df : ByteArray := prog_15_method_13_code
def yJ5_setLength_d00df : MethodName := ⟨RJ5, "setLength", "(I)V"⟩
abbrev cJ5_append_3fe6f : ByteArray := prog_15_method_31_code
def yJ5_append_3fe6f : MethodName := ⟨RJ5, "append", "(C)Ljava/lang/AbstractStringBuilder;"⟩
abbrev cJ5_getValue_6d5f1 : ByteArray := prog_15_method_64_code
def yJ5_getValue_6d5f1 : MethodName := ⟨RJ5, "getValue", "()[B"⟩
abbrev cJ5_isLatin1_aae02 : ByteArray := prog_15_method_68_code
def yJ5_isLatin1_aae02 : MethodName := ⟨RJ5, "isLatin1", "()Z"⟩
def RJ11 : String := "java/lang/Character"
def TJ11 : u_T := fun k => match k with
  | _ => ("", "", "", false)
def tyJ11 : Nat → FieldType := fun k => match k with
  | _ => .int
abbrev wsJ110 : List Cond := u_ws RJ11 TJ11 0
theorem nmJ11 : ∀ a, a < 0 → ∀ b, b < 0 → a ≠ b → (TJ11 a).2.1 ≠ (TJ11 b).2.1 := by decide +kernel
theorem tyJ11_ok : ∀ k, k < 0 → parseFieldDescriptor (TJ11 k).2.2.1 = some (tyJ11 k) := by decide +kernel
abbrev cJ11_isValidCodePoint_9a6ad : ByteArray := prog_16_method_11_code
def yJ11_isValidCodePoint_9a6ad : MethodName := ⟨RJ11, "isValidCodePoint", "(I)Z"⟩
abbrev cJ11_highSurrogate_5068e : ByteArray := prog_16_method_28_code
def yJ11_highSurrogate_5068e : MethodName := ⟨RJ11, "highSurrogate", "(I)C"⟩
abbrev cJ11_lowSurrogate_5068e : ByteArray := prog_16_method_29_code
def yJ11_lowSurrogate_5068e : MethodName := ⟨RJ11, "lowSurrogate", "(I)C"⟩
def RJx8e188 : String := "java/lang/Cloneable"
def TJx8e188 : u_T := fun k => match k with
  | _ => ("", "", "", false)
def tyJx8e188 : Nat → FieldType := fun k => match k with
  | _ => .int
abbrev wsJx8e1880 : List Cond := u_ws RJx8e188 TJx8e188 0
theorem nmJx8e188 : ∀ a, a < 0 → ∀ b, b < 0 → a ≠ b → (TJx8e188 a).2.1 ≠ (TJx8e188 b).2.1 := by decide +kernel
theorem tyJx8e188_ok : ∀ k, k < 0 → parseFieldDescriptor (TJx8e188 k).2.2.1 = some (tyJx8e188 k) := by decide +kernel
def RJ6 : String := "java/lang/Integer"
def TJ6 : u_T := fun k => match k with
  | _ => ("", "", "", false)
def tyJ6 : Nat → FieldType := fun k => match k with
  | _ => .int
abbrev wsJ60 : List Cond := u_ws RJ6 TJ6 0
theorem nmJ6 : ∀ a, a < 0 → ∀ b, b < 0 → a ≠ b → (TJ6 a).2.1 ≠ (TJ6 b).2.1 := by decide +kernel
theorem tyJ6_ok : ∀ k, k < 0 → parseFieldDescriptor (TJ6 k).2.2.1 = some (tyJ6 k) := by decide +kernel
abbrev cJ6_bitCount_0f7a4 : ByteArray := prog_18_method_49_code
def yJ6_bitCount_0f7a4 : MethodName := ⟨RJ6, "bitCount", "(I)I"⟩
def RJ9 : String := "java/lang/Math"
def TJ9 : u_T := fun k => match k with
  | _ => ("", "", "", false)
def tyJ9 : Nat → FieldType := fun k => match k with
  | _ => .int
abbrev wsJ90 : List Cond := u_ws RJ9 TJ9 0
theorem nmJ9 : ∀ a, a < 0 → ∀ b, b < 0 → a ≠ b → (TJ9 a).2.1 ≠ (TJ9 b).2.1 := by decide +kernel
theorem tyJ9_ok : ∀ k, k < 0 → parseFieldDescriptor (TJ9 k).2.2.1 = some (tyJ9 k) := by decide +kernel
abbrev cJ9_floorDiv_f86c9 : ByteArray := prog_19_method_49_code
def yJ9_floorDiv_f86c9 : MethodName := ⟨RJ9, "floorDiv", "(JJ)J"⟩
abbrev cJ9_floorMod_7cf53 : ByteArray := prog_19_method_50_code
def yJ9_floorMod_7cf53 : MethodName := ⟨RJ9, "floorMod", "(II)I"⟩
abbrev cJ9_abs_067f4 : ByteArray := prog_19_method_61_code
def yJ9_abs_067f4 : MethodName := ⟨RJ9, "abs", "(J)J"⟩
abbrev cJ9_max_7cf53 : ByteArray := prog_19_method_65_code
def yJ9_max_7cf53 : MethodName := ⟨RJ9, "max", "(II)I"⟩
abbrev cJ9_max_f86c9 : ByteArray := prog_19_method_66_code
def yJ9_max_f86c9 : MethodName := ⟨RJ9, "max", "(JJ)J"⟩
abbrev cJ9_min_7cf53 : ByteArray := prog_19_method_69_code
def yJ9_min_7cf53 : MethodName := ⟨RJ9, "min", "(II)I"⟩
def RJ0 : String := "java/lang/String"
def TJ0 : u_T := fun k => match k with
  | 0 => ("java/lang/String", "value", "[B", true)
  | 1 => ("java/lang/String", "coder", "B", true)
  | 2 => ("java/lang/String", "hash", "I", false)
  | _ => ("java/lang/String", "hashIsZero", "Z", false)
def tyJ0 : Nat → FieldType := fun k => match k with
  | 0 => .array .byte
  | 1 => .byte
  | 2 => .int
  | _ => .boolean
abbrev wsJ00 : List Cond := u_ws RJ0 TJ0 4
theorem nmJ0 : ∀ a, a < 4 → ∀ b, b < 4 → a ≠ b → (TJ0 a).2.1 ≠ (TJ0 b).2.1 := by decide +kernel
theorem tyJ0_ok : ∀ k, k < 4 → parseFieldDescriptor (TJ0 k).2.2.1 = some (tyJ0 k) := by decide +kernel
abbrev cJ0_init_81219 : ByteArray := prog_20_method_53_code
def yJ0_init_81219 : MethodName := ⟨RJ0, "<init>", "(Ljava/lang/StringBuilder;)V"⟩
abbrev cJ0_length_8abf5 : ByteArray := prog_20_method_54_code
def yJ0_length_8abf5 : MethodName := ⟨RJ0, "length", "()I"⟩
abbrev cJ0_charAt_5068e : ByteArray := prog_20_method_56_code
def yJ0_charAt_5068e : MethodName := ⟨RJ0, "charAt", "(I)C"⟩
abbrev cJ0_indexOf_0f7a4 : ByteArray := prog_20_method_79_code
def yJ0_indexOf_0f7a4 : MethodName := ⟨RJ0, "indexOf", "(I)I"⟩
abbrev cJ0_indexOf_7cf53 : ByteArray := prog_20_method_80_code
def yJ0_indexOf_7cf53 : MethodName := ⟨RJ0, "indexOf", "(II)I"⟩
abbrev cJ0_init_db425 : ByteArray := prog_20_method_150_code
def yJ0_init_db425 : MethodName := ⟨RJ0, "<init>", "(Ljava/lang/AbstractStringBuilder;Ljava/lang/Void;)V"⟩
abbrev cJ0_coder_7d493 : ByteArray := prog_20_method_152_code
def yJ0_coder_7d493 : MethodName := ⟨RJ0, "coder", "()B"⟩
abbrev cJ0_isLatin1_aae02 : ByteArray := prog_20_method_154_code
def yJ0_isLatin1_aae02 : MethodName := ⟨RJ0, "isLatin1", "()Z"⟩
abbrev cJ0_checkIndex_df160 : ByteArray := prog_20_method_155_code
def yJ0_checkIndex_df160 : MethodName := ⟨RJ0, "checkIndex", "(II)V"⟩
abbrev cJ0_checkBoundsOffCount_cabcc : ByteArray := prog_20_method_157_code
def yJ0_checkBoundsOffCount_cabcc : MethodName := ⟨RJ0, "checkBoundsOffCount", "(III)I"⟩
abbrev cJ0_checkBoundsBeginEnd_23922 : ByteArray := prog_20_method_158_code
def yJ0_checkBoundsBeginEnd_23922 : MethodName := ⟨RJ0, "checkBoundsBeginEnd", "(III)V"⟩
def RJ4 : String := "java/lang/StringBuilder"
def TJ4 : u_T := fun k => match k with
  | 0 => ("java/lang/AbstractStringBuilder", "value", "[B", false)
  | 1 => ("java/lang/AbstractStringBuilder", "coder", "B", false)
  | 2 => ("java/lang/AbstractStringBuilder", "maybeLatin1", "Z", false)
  | _ => ("java/lang/AbstractStringBuilder", "count", "I", false)
def tyJ4 : Nat → FieldType := fun k => match k with
  | 0 => .array .byte
  | 1 => .byte
  | 2 => .boolean
  | _ => .int
abbrev wsJ40 : List Cond := u_ws RJ4 TJ4 4
theorem nmJ4 : ∀ a, a < 4 → ∀ b, b < 4 → a ≠ b → (TJ4 a).2.1 ≠ (TJ4 b).2.1 := by decide +kernel
theorem tyJ4_ok : ∀ k, k < 4 → parseFieldDescriptor (TJ4 k).2.2.1 = some (tyJ4 k) := by decide +kernel
abbrev cJ4_init_da8c8 : ByteArray := prog_21_method_1_code
def yJ4_init_da8c8 : MethodName := ⟨RJ4, "<init>", "()V"⟩
abbrev cJ4_append_cf468 : ByteArray := prog_21_method_14_code
def yJ4_append_cf468 : MethodName := ⟨RJ4, "append", "(C)Ljava/lang/StringBuilder;"⟩
abbrev cJ4_toString_0e30d : ByteArray := prog_21_method_42_code
def yJ4_toString_0e30d : MethodName := ⟨RJ4, "toString", "()Ljava/lang/String;"⟩
abbrev cJ4_setLength_d00df : ByteArray := prog_21_method_89_code
def yJ4_setLength_d00df : MethodName := ⟨RJ4, "setLength", "(I)V"⟩
abbrev cJ4_length_8abf5 : ByteArray := prog_21_method_93_code
def yJ4_length_8abf5 : MethodName := ⟨RJ4, "length", "()I"⟩
def RJ1 : String := "java/lang/StringLatin1"
def TJ1 : u_T := fun k => match k with
  | _ => ("", "", "", false)
def tyJ1 : Nat → FieldType := fun k => match k with
  | _ => .int
abbrev wsJ10 : List Cond := u_ws RJ1 TJ1 0
theorem nmJ1 : ∀ a, a < 0 → ∀ b, b < 0 → a ≠ b → (TJ1 a).2.1 ≠ (TJ1 b).2.1 := by decide +kernel
theorem tyJ1_ok : ∀ k, k < 0 → parseFieldDescriptor (TJ1 k).2.2.1 = some (tyJ1 k) := by decide +kernel
abbrev cJ1_charAt_3b067 : ByteArray := prog_22_method_2_code
def yJ1_charAt_3b067 : MethodName := ⟨RJ1, "charAt", "([BI)C"⟩
abbrev cJ1_canEncode_fc78d : ByteArray := prog_22_method_3_code
def yJ1_canEncode_fc78d : MethodName := ⟨RJ1, "canEncode", "(C)Z"⟩
abbrev cJ1_canEncode_9a6ad : ByteArray := prog_22_method_4_code
def yJ1_canEncode_9a6ad : MethodName := ⟨RJ1, "canEncode", "(I)Z"⟩
abbrev cJ1_indexOf_4cfef : ByteArray := prog_22_method_22_code
def yJ1_indexOf_4cfef : MethodName := ⟨RJ1, "indexOf", "([BIII)I"⟩
abbrev cJ1_indexOfChar_4cfef : ByteArray := prog_22_method_23_code
def yJ1_indexOfChar_4cfef : MethodName := ⟨RJ1, "indexOfChar", "([BIII)I"⟩
abbrev cJ1_fillNull_b72d1 : ByteArray := prog_22_method_48_code
def yJ1_fillNull_b72d1 : MethodName := ⟨RJ1, "fillNull", "([BII)V"⟩
abbrev cJ1_inflate_0e8fd : ByteArray := prog_22_method_50_code
def yJ1_inflate_0e8fd : MethodName := ⟨RJ1, "inflate", "([BI[BII)V"⟩
def RJ2 : String := "java/lang/StringUTF16"
def TJ2 : u_T := fun k => match k with
  | _ => ("", "", "", false)
def tyJ2 : Nat → FieldType := fun k => match k with
  | _ => .int
abbrev wsJ20 : List Cond := u_ws RJ2 TJ2 0
theorem nmJ2 : ∀ a, a < 0 → ∀ b, b < 0 → a ≠ b → (TJ2 a).2.1 ≠ (TJ2 b).2.1 := by decide +kernel
theorem tyJ2_ok : ∀ k, k < 0 → parseFieldDescriptor (TJ2 k).2.2.1 = some (tyJ2 k) := by decide +kernel
abbrev cJ2_newBytesFor_77867 : ByteArray := prog_23_method_2_code
def yJ2_newBytesFor_77867 : MethodName := ⟨RJ2, "newBytesFor", "(I)[B"⟩
abbrev cJ2_newBytesLength_0f7a4 : ByteArray := prog_23_method_3_code
def yJ2_newBytesLength_0f7a4 : MethodName := ⟨RJ2, "newBytesLength", "(I)I"⟩
abbrev cJ2_putChar_b72d1 : ByteArray := prog_23_method_4_code
def yJ2_putChar_b72d1 : MethodName := ⟨RJ2, "putChar", "([BII)V"⟩
abbrev cJ2_getChar_3b067 : ByteArray := prog_23_method_5_code
def yJ2_getChar_3b067 : MethodName := ⟨RJ2, "getChar", "([BI)C"⟩
abbrev cJ2_length_9d52b : ByteArray := prog_23_method_6_code
def yJ2_length_9d52b : MethodName := ⟨RJ2, "length", "([B)I"⟩
abbrev cJ2_coderFromArrayLen_85cad : ByteArray := prog_23_method_15_code
def yJ2_coderFromArrayLen_85cad : MethodName := ⟨RJ2, "coderFromArrayLen", "([BI)B"⟩
abbrev cJ2_compress_39247 : ByteArray := prog_23_method_17_code
def yJ2_compress_39247 : MethodName := ⟨RJ2, "compress", "([BII)[B"⟩
abbrev cJ2_compress_5af95 : ByteArray := prog_23_method_22_code
def yJ2_compress_5af95 : MethodName := ⟨RJ2, "compress", "([BI[BII)I"⟩
abbrev cJ2_indexOf_4cfef : ByteArray := prog_23_method_40_code
def yJ2_indexOf_4cfef : MethodName := ⟨RJ2, "indexOf", "([BIII)I"⟩
abbrev cJ2_indexOfChar_4cfef : ByteArray := prog_23_method_47_code
def yJ2_indexOfChar_4cfef : MethodName := ⟨RJ2, "indexOfChar", "([BIII)I"⟩
abbrev cJ2_indexOfCharUnsafe_4cfef : ByteArray := prog_23_method_48_code
def yJ2_indexOfCharUnsafe_4cfef : MethodName := ⟨RJ2, "indexOfCharUnsafe", "([BIII)I"⟩
abbrev cJ2_indexOfSupplementary_4cfef : ByteArray := prog_23_method_49_code
def yJ2_indexOfSupplementary_4cfef : MethodName := ⟨RJ2, "indexOfSupplementary", "([BIII)I"⟩
abbrev cJ2_fillNull_b72d1 : ByteArray := prog_23_method_70_code
def yJ2_fillNull_b72d1 : MethodName := ⟨RJ2, "fillNull", "([BII)V"⟩
abbrev cJ2_putCharSB_b72d1 : ByteArray := prog_23_method_71_code
def yJ2_putCharSB_b72d1 : MethodName := ⟨RJ2, "putCharSB", "([BII)V"⟩
abbrev cJ2_charAt_3b067 : ByteArray := prog_23_method_83_code
def yJ2_charAt_3b067 : MethodName := ⟨RJ2, "charAt", "([BI)C"⟩
abbrev cJ2_inflate_0e8fd : ByteArray := prog_23_method_86_code
def yJ2_inflate_0e8fd : MethodName := ⟨RJ2, "inflate", "([BI[BII)V"⟩
abbrev cJ2_checkIndex_2214a : ByteArray := prog_23_method_91_code
def yJ2_checkIndex_2214a : MethodName := ⟨RJ2, "checkIndex", "(I[B)V"⟩
abbrev cJ2_checkBoundsBeginEnd_d044e : ByteArray := prog_23_method_93_code
def yJ2_checkBoundsBeginEnd_d044e : MethodName := ⟨RJ2, "checkBoundsBeginEnd", "(II[B)V"⟩
abbrev cJ2_checkBoundsOffCount_d044e : ByteArray := prog_23_method_94_code
def yJ2_checkBoundsOffCount_d044e : MethodName := ⟨RJ2, "checkBoundsOffCount", "(II[B)V"⟩
def RJ10 : String := "java/lang/System"
def TJ10 : u_T := fun k => match k with
  | _ => ("", "", "", false)
def tyJ10 : Nat → FieldType := fun k => match k with
  | _ => .int
abbrev wsJ100 : List Cond := u_ws RJ10 TJ10 0
theorem nmJ10 : ∀ a, a < 0 → ∀ b, b < 0 → a ≠ b → (TJ10 a).2.1 ≠ (TJ10 b).2.1 := by decide +kernel
theorem tyJ10_ok : ∀ k, k < 0 → parseFieldDescriptor (TJ10 k).2.2.1 = some (tyJ10 k) := by decide +kernel
def RJ7 : String := "java/util/Arrays"
def TJ7 : u_T := fun k => match k with
  | _ => ("", "", "", false)
def tyJ7 : Nat → FieldType := fun k => match k with
  | _ => .int
abbrev wsJ70 : List Cond := u_ws RJ7 TJ7 0
theorem nmJ7 : ∀ a, a < 0 → ∀ b, b < 0 → a ≠ b → (TJ7 a).2.1 ≠ (TJ7 b).2.1 := by decide +kernel
theorem tyJ7_ok : ∀ k, k < 0 → parseFieldDescriptor (TJ7 k).2.2.1 = some (tyJ7 k) := by decide +kernel
abbrev cJ7_rangeCheck_23922 : ByteArray := prog_25_method_30_code
def yJ7_rangeCheck_23922 : MethodName := ⟨RJ7, "rangeCheck", "(III)V"⟩
abbrev cJ7_fill_eb02e : ByteArray := prog_25_method_110_code
def yJ7_fill_eb02e : MethodName := ⟨RJ7, "fill", "([BIIB)V"⟩
abbrev cJ7_copyOf_9075b : ByteArray := prog_25_method_121_code
def yJ7_copyOf_9075b : MethodName := ⟨RJ7, "copyOf", "([BI)[B"⟩
abbrev cJ7_checkLength_df160 : ByteArray := prog_25_method_131_code
def yJ7_checkLength_df160 : MethodName := ⟨RJ7, "checkLength", "(II)V"⟩
abbrev cJ7_copyOfRange_39247 : ByteArray := prog_25_method_132_code
def yJ7_copyOfRange_39247 : MethodName := ⟨RJ7, "copyOfRange", "([BII)[B"⟩
abbrev cJ7_copyOfRangeByte_39247 : ByteArray := prog_25_method_133_code
def yJ7_copyOfRangeByte_39247 : MethodName := ⟨RJ7, "copyOfRangeByte", "([BII)[B"⟩
def RJ8 : String := "jdk/internal/util/ArraysSupport"
def TJ8 : u_T := fun k => match k with
  | _ => ("", "", "", false)
def tyJ8 : Nat → FieldType := fun k => match k with
  | _ => .int
abbrev wsJ80 : List Cond := u_ws RJ8 TJ8 0
theorem nmJ8 : ∀ a, a < 0 → ∀ b, b < 0 → a ≠ b → (TJ8 a).2.1 ≠ (TJ8 b).2.1 := by decide +kernel
theorem tyJ8_ok : ∀ k, k < 0 → parseFieldDescriptor (TJ8 k).2.2.1 = some (tyJ8 k) := by decide +kernel
abbrev cJ8_newLength_cabcc : ByteArray := prog_26_method_27_code
def yJ8_newLength_cabcc : MethodName := ⟨RJ8, "newLength", "(III)I"⟩
abbrev cJ8_hugeLength_7cf53 : ByteArray := prog_26_method_28_code
def yJ8_hugeLength_7cf53 : MethodName := ⟨RJ8, "hugeLength", "(II)I"⟩
def RJ3 : String := "jdk/internal/util/Preconditions"
def TJ3 : u_T := fun k => match k with
  | _ => ("", "", "", false)
def tyJ3 : Nat → FieldType := fun k => match k with
  | _ => .int
abbrev wsJ30 : List Cond := u_ws RJ3 TJ3 0
theorem nmJ3 : ∀ a, a < 0 → ∀ b, b < 0 → a ≠ b → (TJ3 a).2.1 ≠ (TJ3 b).2.1 := by decide +kernel
theorem tyJ3_ok : ∀ k, k < 0 → parseFieldDescriptor (TJ3 k).2.2.1 = some (tyJ3 k) := by decide +kernel
abbrev cJ3_checkIndex_8e157 : ByteArray := prog_27_method_11_code
def yJ3_checkIndex_8e157 : MethodName := ⟨RJ3, "checkIndex", "(IILjava/util/function/BiFunction;)I"⟩
abbrev cJ3_checkFromToIndex_8c36e : ByteArray := prog_27_method_12_code
def yJ3_checkFromToIndex_8c36e : MethodName := ⟨RJ3, "checkFromToIndex", "(IIILjava/util/function/BiFunction;)I"⟩
abbrev cJ3_checkFromIndexSize_8c36e : ByteArray := prog_27_method_13_code
def yJ3_checkFromIndexSize_8c36e : MethodName := ⟨RJ3, "checkFromIndexSize", "(IIILjava/util/function/BiFunction;)I"⟩
def RL : String := "EclipsesKeptLaw"
abbrev cL_law : ByteArray := code
def yL_law : MethodName := ⟨RL, "law", "([I)Z"⟩
abbrev vwCl : List vw_C := [(RJ0, TJ0, 4), (RJ4, TJ4, 4), (RX0, TX0, 10), (RX1, TX1, 4), (RX2, TX2, 4), (RX3, TX3, 4), (RX4, TX4, 4), (RX5, TX5, 4), (RX6, TX6, 4), (RX7, TX7, 17), (RX8, TX8, 3), (RX9, TX9, 4), (RX10, TX10, 8), (RX11, TX11, 8), (RX12, TX12, 63)]
end
section
/-! the reference's object: its state (int fields, int arrays, long arrays, by the slot of the field), its cells, its rows -/
abbrev mm_S : Type := (Nat → Int32) × (Nat → Nat → Int32) × (Nat → Nat → Int64)
def mm_up {α : Type} (f : Nat → α) (k : Nat) (v : α) : Nat → α := fun j => if j = k then v else f j
def mm_I (st : mm_S) (k : Nat) : Int32 := st.1 k
def mm_G (st : mm_S) (k i : Nat) : Int32 := st.2.1 k i
def mm_L (st : mm_S) (k i : Nat) : Int64 := st.2.2 k i
def mm_sI (st : mm_S) (k : Nat) (v : Int32) : mm_S := (mm_up st.1 k v, st.2)
def mm_sG (st : mm_S) (k i : Nat) (v : Int32) : mm_S := (st.1, mm_up st.2.1 k (upd (st.2.1 k) i v), st.2.2)
def mm_sL (st : mm_S) (k i : Nat) (v : Int64) : mm_S := (st.1, st.2.1, mm_up st.2.2 k (vp_updL (st.2.2 k) i v))
def mm_kds : List Nat := [0, 0, 0, 0, 1, 1, 1, 1, 0, 0, 0, 0, 0, 1, 1, 1, 1, 1, 1, 1, 1, 0, 0, 0, 1, 2, 3, 0, 3, 0, 1, 0, 0, 1, 1, 1, 1, 1, 0, 0, 0, 0, 0, 0, 0, 0, 0, 1, 1, 1, 1, 1, 1, 1, 1, 1, 1, 0, 1, 1, 1, 3, 3]
def mm_lns : List Nat := [0, 0, 0, 0, 6, 6, 6, 24, 0, 0, 0, 0, 0, 100, 6, 60, 60, 60, 60, 600, 101, 0, 0, 0, 13, 100, 90, 0, 90, 0, 8, 0, 0, 5, 5, 5, 8, 8, 0, 0, 0, 0, 0, 0, 0, 0, 0, 6, 6, 6, 24, 8, 5, 5, 5, 8, 8, 0, 20, 6, 6, 360, 60]
def mm_ar : List Nat := [4, 5, 6, 7, 13, 14, 15, 16, 17, 18, 19, 20, 24, 25, 26, 28, 30, 33, 34, 35, 36, 37, 47, 48, 49, 50, 51, 52, 53, 54, 55, 56, 58, 59, 60, 61, 62]
def mm_kd (k : Nat) : Nat := mm_kds.getD k 0
def mm_ln (k : Nat) : Nat := mm_lns.getD k 0
/-! functional code: what is left to be done, partly told -/
def fc_bn {α β γ : Type} (x : Option (α × β)) (k : α → β → Option γ) : Option γ := match x with
  | some q => k q.1 q.2
  | none => none
def fc_bv {β γ : Type} (x : Option β) (k : β → Option γ) : Option γ := match x with
  | some q => k q
  | none => none
def fc_nm {α γ : Type} (e : α) (k : α → γ) : γ := k e
def fc_gd {γ : Type} (b : Bool) (x : Option γ) : Option γ := match b with
  | true => x
  | false => none
def fc_ix (i : Int32) (n : Nat) : Bool := decide (0 ≤ i.toInt ∧ i.toInt < n)
def fc_zb (x : Int32) : Bool := decide (x = 0 ∨ x = 1)
def fc_nz (x : Int32) : Bool := decide (¬ x = 0)
def fc_nzl (x : Int64) : Bool := decide (¬ x = 0)
def fc_lp {α β : Type} (F : (α → Option β) → α → Option β) : Nat → α → Option β
  | 0, _ => none
  | n + 1, a => F (fc_lp F n) a
theorem dd_at {cc : ByteArray} {t : List (Nat × Instr × Nat)} (h : t.all (fun q => decide (decode cc q.1 = .ok (q.2.1, q.2.2))) = true) (i : Nat) {pc n : Nat} {ins : Instr} (hi : t[i]? = some (pc, ins, n)) : decode cc pc = .ok (ins, n) := by
  have h1 : decide (decode cc pc = .ok (ins, n)) = true := List.all_eq_true.mp h (pc, ins, n) (List.mem_of_getElem? hi)
  exact of_decide_eq_true h1
theorem fc_no {α : Type} {v : α} {P : Prop} (h : (none : Option α) = some v) : P := by cases h
theorem fc_of_bn {α β γ : Type} {x : Option (α × β)} {k : α → β → Option γ} {v : γ} (h : fc_bn x k = some v) : ∃ a b, x = some (a, b) ∧ k a b = some v := by
  cases x with
  | none => cases h
  | some q => exact ⟨q.1, q.2, rfl, h⟩
theorem fc_of_bv {β γ : Type} {x : Option β} {k : β → Option γ} {v : γ} (h : fc_bv x k = some v) : ∃ b, x = some b ∧ k b = some v := by
  cases x with
  | none => cases h
  | some q => exact ⟨q, rfl, h⟩
theorem fc_of_nm {α γ : Type} {e : α} {k : α → γ} {v : γ} (h : fc_nm e k = v) (x : α) (hx : x = e) : k x = v := by
  subst hx
  exact h
theorem fc_of_gd {γ : Type} {b : Bool} {x : Option γ} {v : γ} (h : fc_gd b x = some v) : b = true ∧ x = some v := by
  cases b with
  | true => exact ⟨rfl, h⟩
  | false => cases h
theorem fc_of_t {γ : Type} {c : Prop} {_ : Decidable c} {a b : γ} {v : γ} (h : (if c then a else b) = v) (hc : c) : a = v := by rw [if_pos hc] at h; exact h
theorem fc_of_f {γ : Type} {c : Prop} {_ : Decidable c} {a b : γ} {v : γ} (h : (if c then a else b) = v) (hc : ¬ c) : b = v := by rw [if_neg hc] at h; exact h
theorem fc_of_r {α β : Type} {a c : α} {b d : β} (h : some (a, b) = some (c, d)) : a = c ∧ b = d := by cases h; exact ⟨rfl, rfl⟩
theorem fc_of_v {β : Type} {b d : β} (h : some b = some d) : b = d := by cases h; rfl
theorem fc_of_ix {i : Int32} {n : Nat} (h : fc_ix i n = true) : vp_in i n := vp_in_iff.mpr (of_decide_eq_true h)
theorem fc_of_nz {x : Int32} (h : fc_nz x = true) : ¬ x = 0 := of_decide_eq_true h
theorem fc_of_nzl {x : Int64} (h : fc_nzl x = true) : ¬ x = 0 := of_decide_eq_true h
theorem fc_of_zb {x : Int32} (h : fc_zb x = true) : narrow .boolean (.int x) = .int x := by
  rcases of_decide_eq_true h with rfl | rfl <;> rfl
/-! cells -/
def mm_val (ad : Nat → Nat) (st : mm_S) (k : Nat) : Value := if mm_kd k = 0 then .int (st.1 k) else .ref (ad k)
def mm_cell (cs : ClassId × ClassId × ClassId) (st : mm_S) (k : Nat) : va_E := if mm_kd k = 3 then .inl (cs.2.2, mm_ln k, .inr (.inl (st.2.2 k))) else if mm_kd k = 2 then .inl (cs.2.1, mm_ln k, .inl (st.2.1 k)) else .inl (cs.1, mm_ln k, .inl (st.2.1 k))
def mm_fs (ad : Nat → Nat) (st : mm_S) : List Value := (List.range 63).map (mm_val ad st)
def mm_w (o : Nat) (ad : Nat → Nat) (cs : ClassId × ClassId × ClassId) (st : mm_S) : va_W := (o, .inr (14, mm_fs ad st)) :: mm_ar.map (fun k => (ad k, mm_cell cs st k))
def mm_tys (cs : ClassId × ClassId × ClassId) : List (ClassId × FieldType) := [(cs.1, .int), (cs.2.1, .boolean), (cs.2.2, .long)]
theorem mm_mapset {α : Type} {l : List Nat} {f g : Nat → α} {q k : Nat} (hq : l[q]? = some k) (hn : l.Nodup) (h : ∀ j, j ≠ k → g j = f j) : (l.map f).set q (g k) = l.map g := by
  apply List.ext_getElem?
  intro i
  have hl := (List.getElem?_eq_some_iff.mp hq).1
  by_cases hi : i = q
  · subst hi
    rw [List.getElem?_set_self (by rw [List.length_map]; exact hl), List.getElem?_map, hq]
    rfl
  · rw [List.getElem?_set_ne (Ne.symm hi), List.getElem?_map, List.getElem?_map]
    cases hj : l[i]? with
    | none => rfl
    | some j =>
      have hne : j ≠ k := by
        intro e
        subst e
        have hi2 := (List.getElem?_eq_some_iff.mp hj).1
        exact hi ((List.getElem_inj hn).mp ((List.getElem?_eq_some_iff.mp hj).2.trans (List.getElem?_eq_some_iff.mp hq).2.symm))
      show some (f j) = some (g j)
      rw [h j hne]
theorem mm_ar_nd : mm_ar.Nodup := by decide +kernel
theorem mm_fs_get {ad : Nat → Nat} {st : mm_S} {k : Nat} (hk : k < 63) : (mm_fs ad st)[k]? = some (mm_val ad st k) := by
  unfold mm_fs
  rw [List.getElem?_map, List.getElem?_range hk]
  rfl
theorem mm_fs_set {ad : Nat → Nat} {st : mm_S} {k : Nat} (hk : k < 63) (h0 : mm_kd k = 0) (v : Int32) : (mm_fs ad st).set k (.int v) = mm_fs ad (mm_sI st k v) := by
  have h := mm_mapset (f := mm_val ad st) (g := mm_val ad (mm_sI st k v)) (q := k) (k := k) (List.getElem?_range hk) List.nodup_range (fun j hj => by
    unfold mm_val mm_sI mm_up
    simp [hj])
  have e : mm_val ad (mm_sI st k v) k = .int v := by
    unfold mm_val mm_sI mm_up
    simp [h0]
  rw [e] at h
  exact h
theorem mm_w_0 {o : Nat} {ad : Nat → Nat} {cs : ClassId × ClassId × ClassId} {st : mm_S} : (mm_w o ad cs st)[0]? = some (o, .inr (14, mm_fs ad st)) := rfl
theorem mm_w_at {o : Nat} {ad : Nat → Nat} {cs : ClassId × ClassId × ClassId} (st : mm_S) {k : Nat} (hk : k ∈ mm_ar) : ∃ q, mm_ar[q]? = some k ∧ (mm_w o ad cs st)[q + 1]? = some (ad k, mm_cell cs st k) := by
  obtain ⟨q, hq⟩ := List.getElem?_of_mem hk
  refine ⟨q, hq, ?_⟩
  show (mm_ar.map (fun k => (ad k, mm_cell cs st k)))[q]? = _
  rw [List.getElem?_map, hq]
  rfl
theorem mm_w_sI {o : Nat} {ad : Nat → Nat} {cs : ClassId × ClassId × ClassId} {st : mm_S} {k : Nat} (hk : k < 63) (h0 : mm_kd k = 0) (v : Int32) : (mm_w o ad cs st).set 0 (o, .inr (14, (mm_fs ad st).set k (.int v))) = mm_w o ad cs (mm_sI st k v) := by
  rw [mm_fs_set hk h0]
  rfl
theorem mm_w_set {o : Nat} {ad : Nat → Nat} {cs : ClassId × ClassId × ClassId} {st st' : mm_S} {k q : Nat} (hq : mm_ar[q]? = some k) (h1 : st'.1 = st.1) (h : ∀ j, j ≠ k → mm_cell cs st' j = mm_cell cs st j) : (mm_w o ad cs st).set (q + 1) (ad k, mm_cell cs st' k) = mm_w o ad cs st' := by
  have e := mm_mapset (f := fun k => (ad k, mm_cell cs st k)) (g := fun k => (ad k, mm_cell cs st' k)) hq mm_ar_nd (fun j hj => by show (ad j, mm_cell cs st' j) = (ad j, mm_cell cs st j); rw [h j hj])
  have ef : mm_fs ad st' = mm_fs ad st := by
    unfold mm_fs
    refine List.map_congr_left fun k _ => ?_
    unfold mm_val
    rw [h1]
  show (o, _) :: (mm_ar.map (fun k => (ad k, mm_cell cs st k))).set q (ad k, mm_cell cs st' k) = mm_w o ad cs st'
  rw [e]
  unfold mm_w
  rw [ef]
theorem mm_cell_G {cs : ClassId × ClassId × ClassId} {st : mm_S} {k i : Nat} {v : Int32} (j : Nat) (h : j ≠ k) : mm_cell cs (mm_sG st k i v) j = mm_cell cs st j := by
  unfold mm_cell mm_sG mm_up
  simp [h]
theorem mm_cell_L {cs : ClassId × ClassId × ClassId} {st : mm_S} {k i : Nat} {v : Int64} (j : Nat) (h : j ≠ k) : mm_cell cs (mm_sL st k i v) j = mm_cell cs st j := by
  unfold mm_cell mm_sL mm_up
  simp [h]
theorem mm_cell_1 {cs : ClassId × ClassId × ClassId} {st : mm_S} {k : Nat} (h : mm_kd k = 1) : mm_cell cs st k = .inl (cs.1, mm_ln k, .inl (st.2.1 k)) := by
  unfold mm_cell
  simp [h]
theorem mm_cell_2 {cs : ClassId × ClassId × ClassId} {st : mm_S} {k : Nat} (h : mm_kd k = 2) : mm_cell cs st k = .inl (cs.2.1, mm_ln k, .inl (st.2.1 k)) := by
  unfold mm_cell
  simp [h]
theorem mm_cell_3 {cs : ClassId × ClassId × ClassId} {st : mm_S} {k : Nat} (h : mm_kd k = 3) : mm_cell cs st k = .inl (cs.2.2, mm_ln k, .inr (.inl (st.2.2 k))) := by
  unfold mm_cell
  simp [h]
theorem mm_T1 : ∀ k, k < 63 → (TX12 k).1 = "EclipsesKeptModel" := by decide +kernel
theorem mm_fin : ∀ k, k < 63 → mm_kd k = 0 → (TX12 k).2.2.2 = false := by decide +kernel
/-! the words that its methods need -/
def mm_fl : List (Nat × Nat) := [(7, 0), (13, 1), (16, 2), (19, 3), (22, 4), (26, 5), (29, 6), (32, 7), (35, 8), (38, 9), (41, 10), (44, 11), (47, 12), (50, 13), (53, 14), (56, 15), (59, 16), (62, 17), (65, 18), (68, 19), (71, 20), (74, 21), (77, 22), (80, 23), (83, 24), (86, 25), (90, 26), (94, 27), (97, 28), (100, 29), (103, 30), (106, 31), (109, 32), (112, 33), (115, 34), (118, 35), (121, 36), (124, 37), (127, 38), (131, 39), (134, 40), (137, 41), (140, 42), (143, 43), (146, 44), (149, 45), (152, 46), (155, 47), (158, 48), (161, 49), (164, 50), (167, 51), (170, 52), (173, 53), (176, 54), (179, 55), (182, 56), (185, 57), (188, 58), (191, 59), (194, 60), (197, 61), (200, 62)]
def mm_ms : List (Nat × MethodName × ByteArray × Nat × Option FieldType) := [(278, yX12_base, cX12_base, 6, some .int), (264, yX12_begin, cX12_begin, 1, some .int), (267, yX12_behind, cX12_behind, 1, some .int), (337, yX12_bestSet, cX12_bestSet, 3, some .int), (331, yX12_bits, cX12_bits, 4, some .int), (346, yX12_body, cX12_body, 2, none), (353, yX12_darkensAct, cX12_darkensAct, 3, some .int), (311, yX12_divisor, cX12_divisor, 11, some .long), (229, yX12_emits, cX12_emits, 2, none), (270, yX12_factOf, cX12_factOf, 5, some .int), (334, yX12_gainBy, cX12_gainBy, 5, some .int), (307, yX12_gainOf, cX12_gainOf, 11, some .long), (261, yX12_goesText, cX12_goesText, 3, some .boolean), (203, yX12_has, cX12_has, 3, some .boolean), (292, yX12_held, cX12_held, 2, some .int), (274, yX12_holds, cX12_holds, 10, some .boolean), (303, yX12_ifServed, cX12_ifServed, 5, some .long), (299, yX12_ifSpared, cX12_ifSpared, 4, some .long), (207, yX12_in, cX12_in, 4, some .boolean), (318, yX12_isAsked, cX12_isAsked, 3, some .boolean), (211, yX12_isDarks, cX12_isDarks, 2, some .boolean), (225, yX12_isDigit, cX12_isDigit, 1, some .boolean), (215, yX12_isNeed, cX12_isNeed, 2, some .boolean), (340, yX12_isSeen, cX12_isSeen, 3, some .boolean), (343, yX12_isTape, cX12_isTape, 2, some .boolean), (315, yX12_isYears, cX12_isYears, 2, some .boolean), (289, yX12_keep, cX12_keep, 3, some .int), (323, yX12_layGains, cX12_layGains, 8, none), (327, yX12_lowest, cX12_lowest, 8, some .long), (371, yX12_narrow, cX12_narrow, 4, some .long), (349, yX12_needDarkens, cX12_needDarkens, 3, some .int), (356, yX12_needPleads, cX12_needPleads, 3, some .int), (365, yX12_needTells, cX12_needTells, 3, some .int), (218, yX12_next, cX12_next, 1, some .int), (233, yX12_place, cX12_place, 2, some .int), (362, yX12_pleadsAct, cX12_pleadsAct, 4, some .int), (246, yX12_settle, cX12_settle, 2, none), (359, yX12_siegePleads, cX12_siegePleads, 3, some .int), (222, yX12_takes, cX12_takes, 2, some .boolean), (258, yX12_takesClause, cX12_takesClause, 2, some .boolean), (255, yX12_takesE, cX12_takesE, 4, some .boolean), (252, yX12_takesHead, cX12_takesHead, 2, some .boolean), (237, yX12_takesNumber, cX12_takesNumber, 2, some .boolean), (243, yX12_takesTest, cX12_takesTest, 3, some .boolean), (249, yX12_takesWord, cX12_takesWord, 4, some .boolean), (368, yX12_tellsAct, cX12_tellsAct, 4, some .int), (295, yX12_ways, cX12_ways, 5, some .long), (240, yX12_whole, cX12_whole, 1, none), (282, yX12_worthOf, cX12_worthOf, 7, some .int)]
def mm_kw : List Cond := [.initialized RX12, .arrayClass .int, .arrayClass .boolean, .arrayClass .long, .constant RX12 285 (999999 : Int32), .constant RX12 286 (-999999 : Int32), .constant RX12 287 (-10000001 : Int32), .constant RX12 288 (-10000002 : Int32), .constantLong RX12 321 (-9223372036854775808 : Int64)]
def mm_fw (q : Nat × Nat) : Cond := .fieldLink RX12 q.1 "EclipsesKeptModel" (TX12 q.2).2.1 (TX12 q.2).2.2.1
def mm_mw (q : Nat × MethodName × ByteArray × Nat × Option FieldType) : List Cond := [.methodLink RX12 q.1 q.2.1, .instanceMethod q.2.1, .selects RX12 q.2.1 q.2.1, .code q.2.1 q.2.2.1 q.2.2.2.1 q.2.2.2.2]
def mm_W : List Cond := wsX120 ++ (mm_fl.map mm_fw ++ (mm_kw ++ mm_ms.flatMap mm_mw))
theorem mm_Wgood : mm_W.all goodWord = true := by decide +kernel
theorem mm_Win : ∀ w ∈ wsX120, w ∈ mm_W := fun _ h => List.mem_append_left _ h
theorem mm_Wf {i k : Nat} (h : (i, k) ∈ mm_fl) : Cond.fieldLink RX12 i "EclipsesKeptModel" (TX12 k).2.1 (TX12 k).2.2.1 ∈ mm_W := List.mem_append_right _ (List.mem_append_left _ (List.mem_map.mpr ⟨(i, k), h, rfl⟩))
theorem mm_Wk {w : Cond} (h : w ∈ mm_kw) : w ∈ mm_W := List.mem_append_right _ (List.mem_append_right _ (List.mem_append_left _ h))
theorem mm_Wm {q : Nat × MethodName × ByteArray × Nat × Option FieldType} (h : q ∈ mm_ms) : ∀ w ∈ mm_mw q, w ∈ mm_W := fun w hw => List.mem_append_right _ (List.mem_append_right _ (List.mem_append_right _ (List.mem_flatMap.mpr ⟨q, h, hw⟩)))
theorem mm_good {i n : Nat} {y : MethodName} {b : ByteArray} {rt : Option FieldType} (h : (i, y, b, n, rt) ∈ mm_ms) : GoodIn mm_W (wsV RX12 i RX12 y (Cond.code y b n rt :: mm_W)) := by
  have hm : ∀ w ∈ wsV RX12 i RX12 y (Cond.code y b n rt :: mm_W), w ∈ mm_W := by
    intro w hw
    rcases List.mem_append.mp hw with h1 | h1
    · rcases List.mem_cons.mp h1 with rfl | h1
      · exact mm_Wm h _ (List.mem_cons_self)
      rcases List.mem_cons.mp h1 with rfl | h1
      · exact mm_Wm h _ (List.mem_cons_of_mem _ List.mem_cons_self)
      rcases List.mem_cons.mp h1 with rfl | h1
      · exact mm_Wm h _ (List.mem_cons_of_mem _ (List.mem_cons_of_mem _ List.mem_cons_self))
      rcases List.mem_cons.mp h1 with rfl | h1
      · exact mm_Wk (List.mem_cons_self)
      · cases h1
    · rcases List.mem_cons.mp h1 with rfl | h1
      · exact mm_Wm h _ (List.mem_cons_of_mem _ (List.mem_cons_of_mem _ (List.mem_cons_of_mem _ List.mem_cons_self)))
      · exact h1
  exact fun w hw => ⟨hm w hw, good_of_word (List.all_eq_true.mp mm_Wgood w (hm w hw))⟩
/-! what holds within a method of it -/
def mm_A (o : Nat) (ad : Nat → Nat) : Nat → Prop := fun q => q = o ∨ ∃ k, k ∈ mm_ar ∧ q = ad k
def mm_C (p : Program) (s : State) (m : MethodId) (args : Array Value) (meth : Method) (c : Code) (cc : ByteArray) (nL : Nat) (ret : Option FieldType) (D : va_G) (cs : ClassId × ClassId × ClassId) : Prop :=
  p.tables.exec = Jvm.exec ∧ c.code = cc ∧ meth.sig.returnType = ret ∧ c.maxLocals = nL ∧ s.vm.findClass RX12 = some m.cls ∧ (∀ w ∈ mm_W, w.before args s = true) ∧ meth.locks = false ∧ va_K D vwCl (mm_tys cs) s
def mm_H (D : va_G) (o : Nat) (ad : Nat → Nat) (cs : ClassId × ClassId × ClassId) (H0 : Heap) (st : mm_S) (H : Heap) (locs : List Loc) : Prop :=
  va_P D vwCl (mm_w o ad cs st) H ∧ va_D (mm_A o ad) (mm_w o ad cs st) ∧ va_S (mm_A o ad) H0 H locs
def mm_U (D : va_G) (o : Nat) (ad : Nat → Nat) (cs : ClassId × ClassId × ClassId) (st : mm_S) (U : State) : Prop :=
  va_P D vwCl (mm_w o ad cs st) U.heap ∧ va_K D vwCl (mm_tys cs) U ∧ va_D (fun _ => True) (mm_w o ad cs st)
abbrev mm_Qi (D : va_G) (o : Nat) (ad : Nat → Nat) (cs : ClassId × ClassId × ClassId) (r : Int32) (st : mm_S) : Array Value → State → Outcome → State → Prop := va_Qi (fun (r' : Int32) (u : mm_S) => r' = r ∧ u = st) (mm_U D o ad cs) (mm_A o ad)
abbrev mm_Ql (D : va_G) (o : Nat) (ad : Nat → Nat) (cs : ClassId × ClassId × ClassId) (r : Int64) (st : mm_S) : Array Value → State → Outcome → State → Prop := va_Ql (fun (r' : Int64) (u : mm_S) => r' = r ∧ u = st) (mm_U D o ad cs) (mm_A o ad)
abbrev mm_Qv (D : va_G) (o : Nat) (ad : Nat → Nat) (cs : ClassId × ClassId × ClassId) (st : mm_S) : Array Value → State → Outcome → State → Prop := va_Qv (fun (u : mm_S) => u = st) (mm_U D o ad cs) (mm_A o ad)
abbrev mm_R (fr lo : Nat) : Room := { frames := fr, cells := 0, slots := 0, locals := lo }
def mm_Mi (l : Launch) (D : va_G) (o : Nat) (ad : Nat → Nat) (cs : ClassId × ClassId × ClassId) (y : MethodName) (bytes : ByteArray) (maxL : Nat) (rt : Option FieldType) (fr lo : Nat) (As : List Value) (st : mm_S) (x : Option (Int32 × mm_S)) : Prop :=
  ∀ r st', x = some (r, st') → Met l y (Cond.code y bytes maxL rt :: mm_W) (mm_R fr lo) (va_Pc (.ref o :: As) (mm_U D o ad cs st)) (mm_Qi D o ad cs r st') 0 0 (mm_A o ad)
def mm_Ml (l : Launch) (D : va_G) (o : Nat) (ad : Nat → Nat) (cs : ClassId × ClassId × ClassId) (y : MethodName) (bytes : ByteArray) (maxL : Nat) (rt : Option FieldType) (fr lo : Nat) (As : List Value) (st : mm_S) (x : Option (Int64 × mm_S)) : Prop :=
  ∀ r st', x = some (r, st') → Met l y (Cond.code y bytes maxL rt :: mm_W) (mm_R fr lo) (va_Pc (.ref o :: As) (mm_U D o ad cs st)) (mm_Ql D o ad cs r st') 0 0 (mm_A o ad)
def mm_Mv (l : Launch) (D : va_G) (o : Nat) (ad : Nat → Nat) (cs : ClassId × ClassId × ClassId) (y : MethodName) (bytes : ByteArray) (maxL : Nat) (rt : Option FieldType) (fr lo : Nat) (As : List Value) (st : mm_S) (x : Option mm_S) : Prop :=
  ∀ st', x = some st' → Met l y (Cond.code y bytes maxL rt :: mm_W) (mm_R fr lo) (va_Pc (.ref o :: As) (mm_U D o ad cs st)) (mm_Qv D o ad cs st') 0 0 (mm_A o ad)
theorem mm_D_A {o : Nat} {ad : Nat → Nat} {cs : ClassId × ClassId × ClassId} {st : mm_S} {B : Nat → Prop} (h : va_D B (mm_w o ad cs st)) : va_D (mm_A o ad) (mm_w o ad cs st) := by
  refine ⟨h.1, fun k q hq => ?_⟩
  rcases List.mem_cons.mp (List.mem_of_getElem? hq) with e | e
  · rw [e]; exact Or.inl rfl
  · obtain ⟨k, hk, e⟩ := List.mem_map.mp e
    rw [← e]
    exact Or.inr ⟨k, hk, rfl⟩
section MM
variable {p : Program} {l : Launch} {e : Env} {R : Room} {s : State} {m : MethodId} {args : Array Value} {below : List Frame} {meth : Method} {c : Code} {H H0 : Heap} {locs : List Loc} {cells slots : Nat} {Q : State → Prop}
variable {cc : ByteArray} {nL : Nat} {ret : Option FieldType} {pc : Nat} {ls : Array Slot} {rest : List Value} {D : va_G} {o : Nat} {ad : Nat → Nat} {cs : ClassId × ClassId × ClassId} {st : mm_S}
theorem mm_gI (C : mm_C p s m args meth c cc nL ret D cs) (hM : mm_H D o ad cs H0 st H locs) (k : Nat) {index : Nat} (hdg : decode cc pc = .ok (.getfield index, 3)) (hk : k < 63) (h0 : mm_kd k = 0) (hl : (index, k) ∈ mm_fl)
    (kk : W p l e R s m args below meth c H locs cells slots Q (F0 m (pc + 3) ls (.int (mm_I st k) :: rest))) : W p l e R s m args below meth c H locs cells slots Q (F0 m pc ls (.ref o :: rest)) := by
  obtain ⟨hx, hb, -, -, hown, hts, -, hK⟩ := C
  have hv : (mm_fs ad st)[k]? = some (.int (mm_I st k)) := by
    rw [mm_fs_get hk]
    unfold mm_val mm_I
    rw [if_pos h0]
  exact va_get (C := RX12) (T := TX12) (N := 63) (ci := 14) hx hb hts mm_Win hown hK hM.1 0 mm_w_0 rfl k hk (hts _ (mm_Wf hl)) (fun x h => by rw [mm_T1 k hk] at h; exact h) hv hdg kk
theorem mm_gA (C : mm_C p s m args meth c cc nL ret D cs) (hM : mm_H D o ad cs H0 st H locs) (k : Nat) {index : Nat} (hdg : decode cc pc = .ok (.getfield index, 3)) (hk : k < 63) (h0 : ¬ mm_kd k = 0) (hl : (index, k) ∈ mm_fl)
    (kk : W p l e R s m args below meth c H locs cells slots Q (F0 m (pc + 3) ls (.ref (ad k) :: rest))) : W p l e R s m args below meth c H locs cells slots Q (F0 m pc ls (.ref o :: rest)) := by
  obtain ⟨hx, hb, -, -, hown, hts, -, hK⟩ := C
  have hv : (mm_fs ad st)[k]? = some (.ref (ad k)) := by
    rw [mm_fs_get hk]
    unfold mm_val
    rw [if_neg h0]
  exact va_get (C := RX12) (T := TX12) (N := 63) (ci := 14) hx hb hts mm_Win hown hK hM.1 0 mm_w_0 rfl k hk (hts _ (mm_Wf hl)) (fun x h => by rw [mm_T1 k hk] at h; exact h) hv hdg kk
theorem mm_pI (C : mm_C p s m args meth c cc nL ret D cs) (hM : mm_H D o ad cs H0 st H locs) (k : Nat) {index : Nat} {v : Int32} (hdg : decode cc pc = .ok (.putfield index, 3)) (hk : k < 63) (h0 : mm_kd k = 0) (hl : (index, k) ∈ mm_fl) (hn : narrow (tyX12 k) (.int v) = .int v) (hf : fits (tyX12 k) (.int v) = true)
    (kk : ∀ (st1 : mm_S) (H1 : Heap) (locs1 : List Loc), st1 = mm_sI st k v → mm_H D o ad cs H0 st1 H1 locs1 → W p l e R s m args below meth c H1 locs1 cells slots Q (F0 m (pc + 3) ls rest)) : W p l e R s m args below meth c H locs cells slots Q (F0 m pc ls (.int v :: .ref o :: rest)) := by
  obtain ⟨hx, hb, -, -, hown, hts, -, hK⟩ := C
  refine va_put (C := RX12) (T := TX12) (N := 63) (ci := 14) hx hb hts mm_Win tyX12 tyX12_ok nmX12 hown hK hM.1 hM.2.1 hM.2.2 0 mm_w_0 rfl k hk (hts _ (mm_Wf hl)) (fun x h => by rw [mm_T1 k hk] at h; exact h) (mm_fin k hk h0) (tyX12_ok k hk) hn hf (by unfold mm_fs; rw [List.length_map, List.length_range]; exact hk) hdg (fun H1 locs1 hP hD hS => ?_)
  rw [mm_w_sI hk h0] at hP hD
  exact kk _ H1 locs1 rfl ⟨hP, hD, hS⟩
theorem mm_iald (C : mm_C p s m args meth c cc nL ret D cs) (hM : mm_H D o ad cs H0 st H locs) (k : Nat) {i : Int32} (hdg : decode cc pc = .ok (.iaload, 1)) (hk : k ∈ mm_ar) (h1 : mm_kd k = 1) (hin : vp_in i (mm_ln k))
    (kk : W p l e R s m args below meth c H locs cells slots Q (F0 m (pc + 1) ls (.int (mm_G st k i.toNatClampNeg) :: rest))) : W p l e R s m args below meth c H locs cells slots Q (F0 m pc ls (.int i :: .ref (ad k) :: rest)) := by
  obtain ⟨q, hq, ha⟩ := mm_w_at (o := o) (ad := ad) (cs := cs) st hk
  rw [mm_cell_1 h1] at ha
  exact va_iald C.1 C.2.1 C.2.2.2.2.2.2.2 hM.1 (q + 1) 0 ha rfl hin hdg kk
theorem mm_zald (C : mm_C p s m args meth c cc nL ret D cs) (hM : mm_H D o ad cs H0 st H locs) (k : Nat) {i : Int32} (hdg : decode cc pc = .ok (.baload, 1)) (hk : k ∈ mm_ar) (h1 : mm_kd k = 2) (hin : vp_in i (mm_ln k))
    (kk : W p l e R s m args below meth c H locs cells slots Q (F0 m (pc + 1) ls (.int (mm_G st k i.toNatClampNeg) :: rest))) : W p l e R s m args below meth c H locs cells slots Q (F0 m pc ls (.int i :: .ref (ad k) :: rest)) := by
  obtain ⟨q, hq, ha⟩ := mm_w_at (o := o) (ad := ad) (cs := cs) st hk
  rw [mm_cell_2 h1] at ha
  exact va_zald C.1 C.2.1 C.2.2.2.2.2.2.2 hM.1 (q + 1) 1 ha rfl hin hdg kk
theorem mm_lald (C : mm_C p s m args meth c cc nL ret D cs) (hM : mm_H D o ad cs H0 st H locs) (k : Nat) {i : Int32} (hdg : decode cc pc = .ok (.laload, 1)) (hk : k ∈ mm_ar) (h1 : mm_kd k = 3) (hin : vp_in i (mm_ln k))
    (kk : W p l e R s m args below meth c H locs cells slots Q (F0 m (pc + 1) ls (.long (mm_L st k i.toNatClampNeg) :: rest))) : W p l e R s m args below meth c H locs cells slots Q (F0 m pc ls (.int i :: .ref (ad k) :: rest)) := by
  obtain ⟨q, hq, ha⟩ := mm_w_at (o := o) (ad := ad) (cs := cs) st hk
  rw [mm_cell_3 h1] at ha
  exact va_lald C.1 C.2.1 C.2.2.2.2.2.2.2 hM.1 (q + 1) 2 ha rfl hin hdg kk
theorem mm_iast (C : mm_C p s m args meth c cc nL ret D cs) (hM : mm_H D o ad cs H0 st H locs) (k : Nat) {i v : Int32} (hdg : decode cc pc = .ok (.iastore, 1)) (hk : k ∈ mm_ar) (h1 : mm_kd k = 1) (hin : vp_in i (mm_ln k))
    (kk : ∀ (st1 : mm_S) (H1 : Heap) (locs1 : List Loc), st1 = mm_sG st k i.toNatClampNeg v → mm_H D o ad cs H0 st1 H1 locs1 → W p l e R s m args below meth c H1 locs1 cells slots Q (F0 m (pc + 1) ls rest)) : W p l e R s m args below meth c H locs cells slots Q (F0 m pc ls (.int v :: .int i :: .ref (ad k) :: rest)) := by
  obtain ⟨q, hq, ha⟩ := mm_w_at (o := o) (ad := ad) (cs := cs) st hk
  rw [mm_cell_1 h1] at ha
  refine va_iast C.1 C.2.1 C.2.2.2.2.2.2.2 hM.1 hM.2.1 hM.2.2 (q + 1) 0 ha rfl hin hdg (fun H1 locs1 hP hD hS => ?_)
  have e : (mm_w o ad cs st).set (q + 1) (ad k, .inl (cs.1, mm_ln k, .inl (upd (st.2.1 k) i.toNatClampNeg v))) = mm_w o ad cs (mm_sG st k i.toNatClampNeg v) := by
    have h2 := mm_w_set (o := o) (ad := ad) (cs := cs) (st := st) (st' := mm_sG st k i.toNatClampNeg v) hq rfl (fun j hj => mm_cell_G j hj)
    rw [mm_cell_1 h1] at h2
    rw [← h2]
    unfold mm_sG mm_up
    simp
  rw [e] at hP hD
  exact kk _ H1 locs1 rfl ⟨hP, hD, hS⟩
theorem mm_zast (C : mm_C p s m args meth c cc nL ret D cs) (hM : mm_H D o ad cs H0 st H locs) (k : Nat) {i v : Int32} (hdg : decode cc pc = .ok (.bastore, 1)) (hk : k ∈ mm_ar) (h1 : mm_kd k = 2) (hin : vp_in i (mm_ln k))
    (kk : ∀ (st1 : mm_S) (H1 : Heap) (locs1 : List Loc), st1 = mm_sG st k i.toNatClampNeg (vp_nar .boolean v) → mm_H D o ad cs H0 st1 H1 locs1 → W p l e R s m args below meth c H1 locs1 cells slots Q (F0 m (pc + 1) ls rest)) : W p l e R s m args below meth c H locs cells slots Q (F0 m pc ls (.int v :: .int i :: .ref (ad k) :: rest)) := by
  obtain ⟨q, hq, ha⟩ := mm_w_at (o := o) (ad := ad) (cs := cs) st hk
  rw [mm_cell_2 h1] at ha
  refine va_zast C.1 C.2.1 C.2.2.2.2.2.2.2 hM.1 hM.2.1 hM.2.2 (q + 1) 1 ha rfl hin hdg (fun H1 locs1 hP hD hS => ?_)
  have e : (mm_w o ad cs st).set (q + 1) (ad k, .inl (cs.2.1, mm_ln k, .inl (upd (st.2.1 k) i.toNatClampNeg (vp_nar .boolean v)))) = mm_w o ad cs (mm_sG st k i.toNatClampNeg (vp_nar .boolean v)) := by
    have h2 := mm_w_set (o := o) (ad := ad) (cs := cs) (st := st) (st' := mm_sG st k i.toNatClampNeg (vp_nar .boolean v)) hq rfl (fun j hj => mm_cell_G j hj)
    rw [mm_cell_2 h1] at h2
    rw [← h2]
    unfold mm_sG mm_up
    simp
  rw [e] at hP hD
  exact kk _ H1 locs1 rfl ⟨hP, hD, hS⟩
theorem mm_last (C : mm_C p s m args meth c cc nL ret D cs) (hM : mm_H D o ad cs H0 st H locs) (k : Nat) {i : Int32} {v : Int64} (hdg : decode cc pc = .ok (.lastore, 1)) (hk : k ∈ mm_ar) (h1 : mm_kd k = 3) (hin : vp_in i (mm_ln k))
    (kk : ∀ (st1 : mm_S) (H1 : Heap) (locs1 : List Loc), st1 = mm_sL st k i.toNatClampNeg v → mm_H D o ad cs H0 st1 H1 locs1 → W p l e R s m args below meth c H1 locs1 cells slots Q (F0 m (pc + 1) ls rest)) : W p l e R s m args below meth c H locs cells slots Q (F0 m pc ls (.long v :: .int i :: .ref (ad k) :: rest)) := by
  obtain ⟨q, hq, ha⟩ := mm_w_at (o := o) (ad := ad) (cs := cs) st hk
  rw [mm_cell_3 h1] at ha
  refine va_last C.1 C.2.1 C.2.2.2.2.2.2.2 hM.1 hM.2.1 hM.2.2 (q + 1) 2 ha rfl hin hdg (fun H1 locs1 hP hD hS => ?_)
  have e : (mm_w o ad cs st).set (q + 1) (ad k, .inl (cs.2.2, mm_ln k, .inr (.inl (vp_updL (st.2.2 k) i.toNatClampNeg v)))) = mm_w o ad cs (mm_sL st k i.toNatClampNeg v) := by
    have h2 := mm_w_set (o := o) (ad := ad) (cs := cs) (st := st) (st' := mm_sL st k i.toNatClampNeg v) hq rfl (fun j hj => mm_cell_L j hj)
    rw [mm_cell_3 h1] at h2
    rw [← h2]
    unfold mm_sL mm_up
    simp
  rw [e] at hP hD
  exact kk _ H1 locs1 rfl ⟨hP, hD, hS⟩
/-! calls of its own methods -/
theorem mm_pre (C : mm_C p s m args meth c cc nL ret D cs) (hM : mm_H D o ad cs H0 st H locs) (As : List Value) : PreV s H RX12 o (va_Pc (.ref o :: As) (mm_U D o ad cs st)) As := by
  have hK := C.2.2.2.2.2.2.2
  exact ⟨fun a U g mk q => ⟨q.1, q.2.1, va_K.moved (u := U) (U := U.calling g mk a) (Vm.Alike.refl U.vm) q.2.2.1, q.2.2.2⟩, va_recv hK hM.1 (q := (RX12, TX12, 63)) (ci := 14) (q0 := 0) rfl mm_w_0, fun U hU hW => ⟨rfl, by rw [hU]; exact hM.1, va_K.moved hW.alike hK, hM.2.1.weaken (fun _ _ _ _ => trivial)⟩⟩
theorem mm_ci {y : MethodName} {fr lo : Nat} {As : List Value} {x : Option (Int32 × mm_S)} {bytes : ByteArray} {maxL index n : Nat} {rt : Option FieldType} {r : Int32} {st1 : mm_S} {stk : List Value} (C : mm_C p s m args meth c cc nL ret D cs) (hM : mm_H D o ad cs H0 st H locs) (hc : mm_Mi l D o ad cs y bytes maxL rt fr lo As st x) (hg : (index, y, bytes, maxL, rt) ∈ mm_ms) (hdg : decode cc pc = .ok (.invokevirtual index, 3)) (hx : x = some (r, st1)) (hsz : ls.size = nL)
    (hd : y.cls = RX12 ∧ y.cls ≠ "java/lang/invoke/MethodHandle" ∧ y.cls ≠ "java/lang/invoke/VarHandle" ∧ (parseMethodDescriptor y.desc).map (fun d => d.parameters.length) = some n) (hR : fr + 1 ≤ R.frames ∧ 8 + (maxL + 11) + lo ≤ R.locals) (hn : As.length = n) (hst : stk = As.reverse ++ .ref o :: rest) (hW : (rest.map fun v => v.category).sum ≤ 8) (hR2 : cells ≤ R.cells ∧ slots ≤ R.slots)
    (kk : ∀ (H1 : Heap) (locs1 : List Loc), mm_H D o ad cs H0 st1 H1 locs1 → W p l e R s m args below meth c H1 locs1 cells slots Q (F0 m (pc + 3) ls (.int r :: rest))) : W p l e R s m args below meth c H locs cells slots Q (F0 m pc ls stk) := by
  obtain ⟨hx0, hb, -, hml, hown, hts, -, hK⟩ := id C
  refine va_calli (A1 := mm_A o ad) (mc := 0) (ms := 0) (va_runV (As := As) (rest := rest) ⟨hx0, hb, hml, hown, hts⟩ (hc r st1 hx) (cwV n hts (mm_good hg) rfl rfl rfl hd hR) (mm_pre C hM As) rfl hn hsz hst (lv_room hW) hdg hR2) hM.2.2 (fun _ _ h => h) (fun _ h => h) (fun r' u t H1 locs1 ht hvm hw hB _ _ hS => ?_)
  obtain ⟨rfl, rfl⟩ := hw
  rw [mm_U, ht] at hB
  exact kk H1 locs1 ⟨hB.1, mm_D_A hB.2.2, hS⟩
theorem mm_cl {y : MethodName} {fr lo : Nat} {As : List Value} {x : Option (Int64 × mm_S)} {bytes : ByteArray} {maxL index n : Nat} {rt : Option FieldType} {r : Int64} {st1 : mm_S} {stk : List Value} (C : mm_C p s m args meth c cc nL ret D cs) (hM : mm_H D o ad cs H0 st H locs) (hc : mm_Ml l D o ad cs y bytes maxL rt fr lo As st x) (hg : (index, y, bytes, maxL, rt) ∈ mm_ms) (hdg : decode cc pc = .ok (.invokevirtual index, 3)) (hx : x = some (r, st1)) (hsz : ls.size = nL)
    (hd : y.cls = RX12 ∧ y.cls ≠ "java/lang/invoke/MethodHandle" ∧ y.cls ≠ "java/lang/invoke/VarHandle" ∧ (parseMethodDescriptor y.desc).map (fun d => d.parameters.length) = some n) (hR : fr + 1 ≤ R.frames ∧ 8 + (maxL + 11) + lo ≤ R.locals) (hn : As.length = n) (hst : stk = As.reverse ++ .ref o :: rest) (hW : (rest.map fun v => v.category).sum ≤ 8) (hR2 : cells ≤ R.cells ∧ slots ≤ R.slots)
    (kk : ∀ (H1 : Heap) (locs1 : List Loc), mm_H D o ad cs H0 st1 H1 locs1 → W p l e R s m args below meth c H1 locs1 cells slots Q (F0 m (pc + 3) ls (.long r :: rest))) : W p l e R s m args below meth c H locs cells slots Q (F0 m pc ls stk) := by
  obtain ⟨hx0, hb, -, hml, hown, hts, -, hK⟩ := id C
  refine va_calll (A1 := mm_A o ad) (mc := 0) (ms := 0) (va_runV (As := As) (rest := rest) ⟨hx0, hb, hml, hown, hts⟩ (hc r st1 hx) (cwV n hts (mm_good hg) rfl rfl rfl hd hR) (mm_pre C hM As) rfl hn hsz hst (lv_room hW) hdg hR2) hM.2.2 (fun _ _ h => h) (fun _ h => h) (fun r' u t H1 locs1 ht hvm hw hB _ _ hS => ?_)
  obtain ⟨rfl, rfl⟩ := hw
  rw [mm_U, ht] at hB
  exact kk H1 locs1 ⟨hB.1, mm_D_A hB.2.2, hS⟩
theorem mm_cv {y : MethodName} {fr lo : Nat} {As : List Value} {x : Option mm_S} {bytes : ByteArray} {maxL index n : Nat} {rt : Option FieldType} {st1 : mm_S} {stk : List Value} (C : mm_C p s m args meth c cc nL ret D cs) (hM : mm_H D o ad cs H0 st H locs) (hc : mm_Mv l D o ad cs y bytes maxL rt fr lo As st x) (hg : (index, y, bytes, maxL, rt) ∈ mm_ms) (hdg : decode cc pc = .ok (.invokevirtual index, 3)) (hx : x = some st1) (hsz : ls.size = nL)
    (hd : y.cls = RX12 ∧ y.cls ≠ "java/lang/invoke/MethodHandle" ∧ y.cls ≠ "java/lang/invoke/VarHandle" ∧ (parseMethodDescriptor y.desc).map (fun d => d.parameters.length) = some n) (hR : fr + 1 ≤ R.frames ∧ 8 + (maxL + 11) + lo ≤ R.locals) (hn : As.length = n) (hst : stk = As.reverse ++ .ref o :: rest) (hW : (rest.map fun v => v.category).sum ≤ 8) (hR2 : cells ≤ R.cells ∧ slots ≤ R.slots)
    (kk : ∀ (H1 : Heap) (locs1 : List Loc), mm_H D o ad cs H0 st1 H1 locs1 → W p l e R s m args below meth c H1 locs1 cells slots Q (F0 m (pc + 3) ls rest)) : W p l e R s m args below meth c H locs cells slots Q (F0 m pc ls stk) := by
  obtain ⟨hx0, hb, -, hml, hown, hts, -, hK⟩ := id C
  refine va_callv (A1 := mm_A o ad) (mc := 0) (ms := 0) (va_runV (As := As) (rest := rest) ⟨hx0, hb, hml, hown, hts⟩ (hc st1 hx) (cwV n hts (mm_good hg) rfl rfl rfl hd hR) (mm_pre C hM As) rfl hn hsz hst (lv_room hW) hdg hR2) hM.2.2 (fun _ _ h => h) (fun _ h => h) (fun u t H1 locs1 ht hvm hw hB _ _ hS => ?_)
  obtain rfl := hw
  rw [mm_U, ht] at hB
  exact kk H1 locs1 ⟨hB.1, mm_D_A hB.2.2, hS⟩
/-! ends -/
theorem mm_ri {v r : Int32} {st' : mm_S} (C : mm_C p s m args meth c cc nL (some .int) D cs) (hM : mm_H D o ad cs s.heap st H locs) (hdg : decode cc pc = .ok (.ireturn, 1)) (hf : some (v, st) = some (r, st')) : W p l e R s m args below meth c H locs cells slots (MQ below (mm_Qi D o ad cs r st') args s cells slots (mm_A o ad)) (F0 m pc ls [.int v]) := by
  obtain ⟨rfl, rfl⟩ := fc_of_r hf
  obtain ⟨hx0, hb, hr, hml, hown, hts, hlk, hK⟩ := C
  exact W.iret (v := v) hx0 hb hr (fun t ht hW => ⟨⟨v, st, rfl, ⟨rfl, rfl⟩, by rw [mm_U, ht]; exact ⟨hM.1, va_K.moved hW.alike hK, hM.2.1.weaken (fun _ _ _ _ => trivial)⟩⟩, hM.2.2.F ht⟩) hM.2.2.2.2 hdg hlk
theorem mm_rz {v r : Int32} {st' : mm_S} (C : mm_C p s m args meth c cc nL (some .boolean) D cs) (hM : mm_H D o ad cs s.heap st H locs) (hdg : decode cc pc = .ok (.ireturn, 1)) (hn : narrow .boolean (.int v) = .int v) (hf : some (v, st) = some (r, st')) : W p l e R s m args below meth c H locs cells slots (MQ below (mm_Qi D o ad cs r st') args s cells slots (mm_A o ad)) (F0 m pc ls [.int v]) := by
  obtain ⟨rfl, rfl⟩ := fc_of_r hf
  obtain ⟨hx0, hb, hr, hml, hown, hts, hlk, hK⟩ := C
  exact W.zret (v := v) hx0 hb hr hn (fun t ht hW => ⟨⟨v, st, rfl, ⟨rfl, rfl⟩, by rw [mm_U, ht]; exact ⟨hM.1, va_K.moved hW.alike hK, hM.2.1.weaken (fun _ _ _ _ => trivial)⟩⟩, hM.2.2.F ht⟩) hM.2.2.2.2 hdg hlk
theorem mm_rl {v r : Int64} {st' : mm_S} (C : mm_C p s m args meth c cc nL (some .long) D cs) (hM : mm_H D o ad cs s.heap st H locs) (hdg : decode cc pc = .ok (.lreturn, 1)) (hf : some (v, st) = some (r, st')) : W p l e R s m args below meth c H locs cells slots (MQ below (mm_Ql D o ad cs r st') args s cells slots (mm_A o ad)) (F0 m pc ls [.long v]) := by
  obtain ⟨rfl, rfl⟩ := fc_of_r hf
  obtain ⟨hx0, hb, hr, hml, hown, hts, hlk, hK⟩ := C
  exact W.lret (v := v) hx0 hb hr (fun t ht hW => ⟨⟨v, st, rfl, ⟨rfl, rfl⟩, by rw [mm_U, ht]; exact ⟨hM.1, va_K.moved hW.alike hK, hM.2.1.weaken (fun _ _ _ _ => trivial)⟩⟩, hM.2.2.F ht⟩) hM.2.2.2.2 hdg hlk
theorem mm_rv {st' : mm_S} (C : mm_C p s m args meth c cc nL none D cs) (hM : mm_H D o ad cs s.heap st H locs) (hdg : decode cc pc = .ok (.return_, 1)) (hf : some st = some st') : W p l e R s m args below meth c H locs cells slots (MQ below (mm_Qv D o ad cs st') args s cells slots (mm_A o ad)) (F0 m pc ls []) := by
  obtain rfl := fc_of_v hf
  obtain ⟨hx0, hb, hr, hml, hown, hts, hlk, hK⟩ := C
  exact W.vret hx0 hb hr (fun t ht hW => ⟨⟨st, rfl, rfl, by rw [mm_U, ht]; exact ⟨hM.1, va_K.moved hW.alike hK, hM.2.1.weaken (fun _ _ _ _ => trivial)⟩⟩, hM.2.2.F ht⟩) hM.2.2.2.2 hdg hlk
end MM
/-! starts -/
theorem mm_enter {l : Launch} {D : va_G} {o : Nat} {ad : Nat → Nat} {cs : ClassId × ClassId × ClassId} {y : MethodName} {fr lo : Nat} {As : List Value} {st : mm_S} {cc : ByteArray} {nL : Nat} {ret : Option FieldType} {Qc : Array Value → State → Outcome → State → Prop} (hy : plainName y.cls = true) (hcl : y.cls = RX12) (hn : (lg_sl (.ref o :: As)).length ≤ nL)
    (body : ∀ p e s m args below meth c ls, mm_C p s m args meth c cc nL ret D cs → lv_has ls nL (lv_args 0 (.ref o :: As)) → mm_H D o ad cs s.heap st s.heap [] → W p l e (mm_R fr lo) s m args below meth c s.heap [] 0 0 (MQ below Qc args s 0 0 (mm_A o ad)) (F0 m 0 ls [])) : Met l y (Cond.code y cc nL ret :: mm_W) (mm_R fr lo) (va_Pc (.ref o :: As) (mm_U D o ad cs st)) Qc 0 0 (mm_A o ad) := by
  refine Met.ofW (cc := cc) (maxL := nL) (ret := ret) hy rfl ?_
  intro p e s m args below meth c s₁ B hml hv
  obtain ⟨rfl, hP, hK, hD⟩ := hv
  have hl := lv_entry (.ref o :: As) hn
  rw [lg_entry_eq]
  generalize (lg_sl (.ref o :: As) ++ List.replicate (nL - (lg_sl (.ref o :: As)).length) Slot.unset).toArray = ls at hl ⊢
  exact body p e s m _ below meth c ls ⟨B.exec, B.bytes, B.returns, hml, by rw [← hcl]; exact findClass_of_methodNamed B.named, fun w hw => atoms_spec (ws := Cond.code y cc nL ret :: mm_W) B.pre w (List.mem_cons_of_mem _ hw), B.notSynchronized, hK⟩ hl ⟨hP, mm_D_A hD, va_S.rf⟩
end
section
/-! in -/
def M_in (fu : Nat) (x1 : Int32) (x2 : Int32) (x3 : Int32) (st : mm_S) : Option (Int32 × mm_S) :=
  if x1 < x2 then (
  some ((0 : Int32), st))
  else (
  if x3 < x1 then (
  some ((0 : Int32), st))
  else (
  some ((1 : Int32), st)))
/-! has -/
def M_has (fu : Nat) (x1 : Int32) (x2 : Int32) (st : mm_S) : Option (Int32 × mm_S) :=
  if ((x1 >>> (x2 &&& 31)) &&& (1 : Int32)) = (1 : Int32) then (
  some ((1 : Int32), st))
  else (
  some ((0 : Int32), st))
/-! bits -/
def M_bits_b25 (fu : Nat) (K4 : Int32 → Int32 → Int32 → mm_S → Option (Int32 × mm_S)) (x1 : Int32) (x3 : Int32) (s0 : Int32) (s1 : Int32) (st : mm_S) : Option (Int32 × mm_S) :=
  fc_nm (s1 + s0) fun v6 =>
  fc_nm (x3 + (1 : Int32)) fun v7 =>
  K4 x1 v6 v7 st
def M_bits_b4F (fu : Nat) (K4 : Int32 → Int32 → Int32 → mm_S → Option (Int32 × mm_S)) (x1 : Int32) (x2 : Int32) (x3 : Int32) (st : mm_S) : Option (Int32 × mm_S) :=
  if (8 : Int32) ≤ x3 then (
  some (x2, st))
  else (
  fc_bn (M_has fu x1 x3 st) fun r4 st2 =>
  if r4 = 0 then (
  M_bits_b25 fu K4 x1 x3 (0 : Int32) x2 st2)
  else (
  M_bits_b25 fu K4 x1 x3 (1 : Int32) x2 st2))
def M_bits_b4 (fu : Nat) (n : Nat) (x1 : Int32) (x2 : Int32) (x3 : Int32) (st : mm_S) : Option (Int32 × mm_S) :=
  fc_lp (fun (K : Int32 × Int32 × Int32 × mm_S → Option (Int32 × mm_S)) a => M_bits_b4F fu (fun x1 x2 x3 st => K (x1, x2, x3, st)) a.1 a.2.1 a.2.2.1 a.2.2.2) n (x1, x2, x3, st)
def M_bits (fu : Nat) (x1 : Int32) (st : mm_S) : Option (Int32 × mm_S) :=
  M_bits_b4 fu fu x1 (0 : Int32) (0 : Int32) st
/-! isNeed -/
def M_isNeed (fu : Nat) (x1 : Int32) (st : mm_S) : Option (Int32 × mm_S) :=
  fc_bn (M_in fu x1 (0 : Int32) ((mm_I st 0) - (1 : Int32)) st) fun r3 st1 =>
  fc_gd (fc_zb r3) <|
  some (r3, st1)
/-! isDarks -/
def M_isDarks (fu : Nat) (x1 : Int32) (st : mm_S) : Option (Int32 × mm_S) :=
  fc_bn (M_in fu x1 (0 : Int32) (8 : Int32) st) fun r3 st1 =>
  fc_gd (fc_zb r3) <|
  some (r3, st1)
/-! need -/
def M_need_b71F (fu : Nat) (K71 : Int32 → mm_S → Option (Int32 × mm_S)) (x3 : Int32) (st : mm_S) : Option (Int32 × mm_S) :=
  if (4 : Int32) ≤ x3 then (
  fc_nm (mm_sI st 0 ((mm_I st 0) + (1 : Int32))) fun st17 =>
  some (((mm_I st17 0) - (1 : Int32)), st17))
  else (
  fc_gd (fc_ix (((4 : Int32) * (mm_I st 0)) + x3) 24) <|
  fc_nm (mm_sG st 7 (((4 : Int32) * (mm_I st 0)) + x3).toNatClampNeg (0 : Int32)) fun st19 =>
  fc_nm (x3 + (1 : Int32)) fun v20 =>
  K71 v20 st19)
def M_need_b71 (fu : Nat) (n : Nat) (x3 : Int32) (st : mm_S) : Option (Int32 × mm_S) :=
  fc_lp (fun (K : Int32 × mm_S → Option (Int32 × mm_S)) a => M_need_b71F fu (fun x3 st => K (x3, st)) a.1 a.2) n (x3, st)
def M_need (fu : Nat) (x1 : Int32) (x2 : Int32) (st : mm_S) : Option (Int32 × mm_S) :=
  fc_bn (M_in fu x1 (0 : Int32) (6 : Int32) st) fun r3 st1 =>
  if r3 = 0 then (
  some ((-1 : Int32), st1))
  else (
  fc_bn (M_in fu x2 (0 : Int32) (9 : Int32) st1) fun r7 st5 =>
  if r7 = 0 then (
  some ((-2 : Int32), st5))
  else (
  if (mm_I st5 0) = (6 : Int32) then (
  some ((-4 : Int32), st5))
  else (
  fc_gd (fc_ix (mm_I st5 0) 6) <|
  fc_nm (mm_sG st5 4 (mm_I st5 0).toNatClampNeg x1) fun st11 =>
  fc_gd (fc_ix (mm_I st11 0) 6) <|
  fc_nm (mm_sG st11 5 (mm_I st11 0).toNatClampNeg x2) fun st13 =>
  fc_gd (fc_ix (mm_I st13 0) 6) <|
  fc_nm (mm_sG st13 6 (mm_I st13 0).toNatClampNeg (0 : Int32)) fun st15 =>
  M_need_b71 fu fu (0 : Int32) st15)))
/-! darks -/
def M_darks (fu : Nat) (x1 : Int32) (st : mm_S) : Option (Int32 × mm_S) :=
  fc_bn (M_isDarks fu x1 st) fun r3 st1 =>
  if r3 = 0 then (
  some ((-2 : Int32), st1))
  else (
  fc_nm (mm_I st1 1) fun v5 =>
  fc_nm (mm_sI st1 1 x1) fun st6 =>
  some (v5, st6))
/-! row -/
def M_row (fu : Nat) (x1 : Int32) (x2 : Int32) (x3 : Int32) (st : mm_S) : Option (Int32 × mm_S) :=
  fc_bn (M_isNeed fu x1 st) fun r3 st1 =>
  if r3 = 0 then (
  some ((-1 : Int32), st1))
  else (
  fc_bn (M_in fu x2 (0 : Int32) (3 : Int32) st1) fun r7 st5 =>
  if r7 = 0 then (
  some ((-1 : Int32), st5))
  else (
  fc_bn (M_in fu x3 (0 : Int32) (9 : Int32) st5) fun r11 st9 =>
  if r11 = 0 then (
  some ((-2 : Int32), st9))
  else (
  fc_gd (fc_ix x1 6) <|
  if (mm_G st9 4 x1.toNatClampNeg) = (6 : Int32) then (
  fc_gd (fc_ix (((4 : Int32) * x1) + x2) 24) <|
  fc_nm (mm_G st9 7 (((4 : Int32) * x1) + x2).toNatClampNeg) fun v16 =>
  fc_gd (fc_ix (((4 : Int32) * x1) + x2) 24) <|
  fc_nm (mm_sG st9 7 (((4 : Int32) * x1) + x2).toNatClampNeg x3) fun st18 =>
  some (v16, st18))
  else (
  some ((-3 : Int32), st9)))))
/-! feed -/
def M_feed (fu : Nat) (x1 : Int32) (st : mm_S) : Option (Int32 × mm_S) :=
  fc_bn (M_in fu x1 (0 : Int32) (127 : Int32) st) fun r3 st1 =>
  if r3 = 0 then (
  some ((-2 : Int32), st1))
  else (
  if (mm_I st1 10) = (100 : Int32) then (
  some ((-4 : Int32), st1))
  else (
  fc_gd (fc_ix (mm_I st1 10) 100) <|
  fc_nm (mm_sG st1 13 (mm_I st1 10).toNatClampNeg x1) fun st7 =>
  fc_nm (mm_sI st7 10 ((mm_I st7 10) + (1 : Int32))) fun st8 =>
  some ((mm_I st8 10), st8)))
/-! next -/
def M_next (fu : Nat) (st : mm_S) : Option (Int32 × mm_S) :=
  if (mm_I st 10) ≤ (mm_I st 11) then (
  some ((-1 : Int32), st))
  else (
  fc_gd (fc_ix (mm_I st 11) 100) <|
  some ((mm_G st 13 (mm_I st 11).toNatClampNeg), st))
/-! takes -/
def M_takes (fu : Nat) (x1 : Int32) (st : mm_S) : Option (Int32 × mm_S) :=
  fc_bn (M_next fu st) fun r3 st1 =>
  if r3 = x1 then (
  fc_nm (mm_sI st1 11 ((mm_I st1 11) + (1 : Int32))) fun st5 =>
  some ((1 : Int32), st5))
  else (
  some ((0 : Int32), st1))
/-! takesWord -/
def M_takesWord_b2F (fu : Nat) (K2 : Int32 → Int32 → Int32 → mm_S → Option (Int32 × mm_S)) (x1 : Int32) (x2 : Int32) (x3 : Int32) (st : mm_S) : Option (Int32 × mm_S) :=
  if x2 ≤ x3 then (
  fc_bn (M_takes fu (32 : Int32) st) fun r4 st2 =>
  fc_gd (fc_zb r4) <|
  some (r4, st2))
  else (
  fc_gd (fc_ix (x1 + x3) 13) <|
  fc_bn (M_takes fu (mm_G st 24 (x1 + x3).toNatClampNeg) st) fun r9 st7 =>
  if r9 = 0 then (
  some ((0 : Int32), st7))
  else (
  fc_nm (x3 + (1 : Int32)) fun v11 =>
  K2 x1 x2 v11 st7))
def M_takesWord_b2 (fu : Nat) (n : Nat) (x1 : Int32) (x2 : Int32) (x3 : Int32) (st : mm_S) : Option (Int32 × mm_S) :=
  fc_lp (fun (K : Int32 × Int32 × Int32 × mm_S → Option (Int32 × mm_S)) a => M_takesWord_b2F fu (fun x1 x2 x3 st => K (x1, x2, x3, st)) a.1 a.2.1 a.2.2.1 a.2.2.2) n (x1, x2, x3, st)
def M_takesWord (fu : Nat) (x1 : Int32) (x2 : Int32) (st : mm_S) : Option (Int32 × mm_S) :=
  M_takesWord_b2 fu fu x1 x2 (0 : Int32) st
/-! isDigit -/
def M_isDigit (fu : Nat) (st : mm_S) : Option (Int32 × mm_S) :=
  fc_bn (M_next fu st) fun r3 st1 =>
  fc_bn (M_in fu r3 (48 : Int32) (57 : Int32) st1) fun r6 st4 =>
  fc_gd (fc_zb r6) <|
  some (r6, st4)
/-! takesNumber -/
def M_takesNumber_b16F (fu : Nat) (K16 : Int32 → mm_S → Option (Int32 × mm_S)) (x1 : Int32) (st : mm_S) : Option (Int32 × mm_S) :=
  if (2 : Int32) ≤ x1 then (
  some ((1 : Int32), st))
  else (
  fc_bn (M_isDigit fu st) fun r9 st7 =>
  if r9 = 0 then (
  some ((1 : Int32), st7))
  else (
  fc_bn (M_next fu st7) fun r13 st11 =>
  fc_nm (mm_sI st11 12 ((((10 : Int32) * (mm_I st7 12)) + r13) - (48 : Int32))) fun st14 =>
  fc_nm (mm_sI st14 11 ((mm_I st14 11) + (1 : Int32))) fun st15 =>
  fc_nm (x1 + (1 : Int32)) fun v16 =>
  K16 v16 st15))
def M_takesNumber_b16 (fu : Nat) (n : Nat) (x1 : Int32) (st : mm_S) : Option (Int32 × mm_S) :=
  fc_lp (fun (K : Int32 × mm_S → Option (Int32 × mm_S)) a => M_takesNumber_b16F fu (fun x1 st => K (x1, st)) a.1 a.2) n (x1, st)
def M_takesNumber (fu : Nat) (st : mm_S) : Option (Int32 × mm_S) :=
  fc_bn (M_isDigit fu st) fun r3 st1 =>
  if r3 = 0 then (
  some ((0 : Int32), st1))
  else (
  fc_nm (mm_sI st1 12 (0 : Int32)) fun st5 =>
  M_takesNumber_b16 fu fu (0 : Int32) st5)
/-! emits -/
def M_emits (fu : Nat) (x1 : Int32) (st : mm_S) : Option mm_S :=
  fc_gd (fc_ix (mm_I st 21) 600) <|
  fc_nm (mm_sG st 19 (mm_I st 21).toNatClampNeg x1) fun st2 =>
  fc_nm (mm_sI st2 21 ((mm_I st2 21) + (1 : Int32))) fun st3 =>
  some st3
/-! whole -/
def M_whole_b0F (fu : Nat) (K0 : mm_S → Option mm_S) (st : mm_S) : Option mm_S :=
  if (mm_I st 22) ≤ 0 then (
  some st)
  else (
  fc_gd (fc_ix ((mm_I st 22) - (1 : Int32)) 101) <|
  if (mm_G st 20 ((mm_I st 22) - (1 : Int32)).toNatClampNeg) = (33 : Int32) then (
  fc_bv (M_emits fu (-33 : Int32) st) fun st4 =>
  fc_nm (mm_sI st4 22 ((mm_I st4 22) - (1 : Int32))) fun st6 =>
  fc_nm (mm_sI st6 23 ((mm_I st6 23) - (1 : Int32))) fun st7 =>
  K0 st7)
  else (
  some st))
def M_whole_b0 (fu : Nat) (n : Nat) (st : mm_S) : Option mm_S :=
  fc_lp (fun (K : mm_S → Option mm_S) a => M_whole_b0F fu (fun st => K (st)) a) n (st)
def M_whole (fu : Nat) (st : mm_S) : Option mm_S :=
  M_whole_b0 fu fu st
/-! settle -/
def M_settle_b45 (fu : Nat) (K0 : Int32 → mm_S → Option mm_S) (x1 : Int32) (st : mm_S) : Option mm_S :=
  fc_nm (mm_sI st 22 ((mm_I st 22) - (1 : Int32))) fun st7 =>
  fc_gd (fc_ix (mm_I st7 22) 101) <|
  fc_bv (M_emits fu (-(mm_G st7 20 (mm_I st7 22).toNatClampNeg)) st7) fun st9 =>
  K0 x1 st9
def M_settle_b0F (fu : Nat) (K0 : Int32 → mm_S → Option mm_S) (x1 : Int32) (st : mm_S) : Option mm_S :=
  if (mm_I st 22) ≤ 0 then (
  some st)
  else (
  fc_gd (fc_ix ((mm_I st 22) - (1 : Int32)) 101) <|
  if (mm_G st 20 ((mm_I st 22) - (1 : Int32)).toNatClampNeg) = (38 : Int32) then (
  M_settle_b45 fu K0 x1 st)
  else (
  fc_gd (fc_ix ((mm_I st 22) - (1 : Int32)) 101) <|
  if (mm_G st 20 ((mm_I st 22) - (1 : Int32)).toNatClampNeg) = (124 : Int32) then (
  if x1 = (38 : Int32) then (
  some st)
  else (
  M_settle_b45 fu K0 x1 st))
  else (
  some st)))
def M_settle_b0 (fu : Nat) (n : Nat) (x1 : Int32) (st : mm_S) : Option mm_S :=
  fc_lp (fun (K : Int32 × mm_S → Option mm_S) a => M_settle_b0F fu (fun x1 st => K (x1, st)) a.1 a.2) n (x1, st)
def M_settle (fu : Nat) (x1 : Int32) (st : mm_S) : Option mm_S :=
  M_settle_b0 fu fu x1 st
/-! place -/
def M_place (fu : Nat) (x1 : Int32) (st : mm_S) : Option (Int32 × mm_S) :=
  if x1 = (99 : Int32) then (
  some ((4 : Int32), st))
  else (
  if x1 = (100 : Int32) then (
  some ((5 : Int32), st))
  else (
  if x1 = (105 : Int32) then (
  some ((0 : Int32), st))
  else (
  if x1 = (107 : Int32) then (
  some ((1 : Int32), st))
  else (
  if x1 = (118 : Int32) then (
  some ((2 : Int32), st))
  else (
  if x1 = (121 : Int32) then (
  some ((3 : Int32), st))
  else (
  some ((-1 : Int32), st)))))))
/-! takesTest -/
def M_takesTest (fu : Nat) (st : mm_S) : Option (Int32 × mm_S) :=
  fc_bn (M_next fu st) fun r3 st1 =>
  fc_bn (M_place fu r3 st1) fun r6 st4 =>
  if 0 ≤ r6 then (
  fc_nm (mm_sI st4 11 ((mm_I st4 11) + (1 : Int32))) fun st8 =>
  fc_bn (M_next fu st8) fun r11 st9 =>
  fc_bn (M_in fu r11 (60 : Int32) (62 : Int32) st9) fun r14 st12 =>
  if r14 = 0 then (
  some ((0 : Int32), st12))
  else (
  fc_nm (mm_sI st12 11 ((mm_I st12 11) + (1 : Int32))) fun st16 =>
  fc_bn (M_takesNumber fu st16) fun r19 st17 =>
  if r19 = 0 then (
  some ((0 : Int32), st17))
  else (
  fc_bv (M_emits fu ((((1000 : Int32) * r6) + ((100 : Int32) * (r11 - (60 : Int32)))) + (mm_I st17 12)) st17) fun st21 =>
  fc_bv (M_whole fu st21) fun st23 =>
  some ((1 : Int32), st23))))
  else (
  some ((0 : Int32), st4))
/-! takesE -/
def M_takesE_b122 (fu : Nat) (K22 : Int32 → Int32 → mm_S → Option (Int32 × mm_S)) (x1 : Int32) (x3 : Int32) (st : mm_S) : Option (Int32 × mm_S) :=
  fc_bv (M_settle fu x3 st) fun st28 =>
  fc_gd (fc_ix (mm_I st28 22) 101) <|
  fc_nm (mm_sG st28 20 (mm_I st28 22).toNatClampNeg x3) fun st31 =>
  fc_nm (mm_sI st31 22 ((mm_I st31 22) + (1 : Int32))) fun st32 =>
  fc_nm (mm_sI st32 11 ((mm_I st32 11) + (1 : Int32))) fun st33 =>
  K22 x1 (1 : Int32) st33
def M_takesE_b43 (fu : Nat) (K22 : Int32 → Int32 → mm_S → Option (Int32 × mm_S)) (x1 : Int32) (x2 : Int32) (x3 : Int32) (st : mm_S) : Option (Int32 × mm_S) :=
  if (mm_I st 23) = (4 : Int32) then (
  some ((0 : Int32), st))
  else (
  fc_nm (mm_sI st 23 ((mm_I st 23) + (1 : Int32))) fun st35 =>
  fc_gd (fc_ix (mm_I st35 22) 101) <|
  fc_nm (mm_sG st35 20 (mm_I st35 22).toNatClampNeg x3) fun st37 =>
  fc_nm (mm_sI st37 22 ((mm_I st37 22) + (1 : Int32))) fun st38 =>
  fc_nm (mm_sI st38 11 ((mm_I st38 11) + (1 : Int32))) fun st39 =>
  K22 x1 x2 st39)
def M_takesE_b22F (fu : Nat) (K22 : Int32 → Int32 → mm_S → Option (Int32 × mm_S)) (x1 : Int32) (x2 : Int32) (st : mm_S) : Option (Int32 × mm_S) :=
  fc_bn (M_next fu st) fun r7 st5 =>
  if x2 = 0 then (
  if r7 = (38 : Int32) then (
  M_takesE_b122 fu K22 x1 r7 st5)
  else (
  if r7 = (124 : Int32) then (
  M_takesE_b122 fu K22 x1 r7 st5)
  else (
  fc_bv (M_settle fu (124 : Int32) st5) fun st11 =>
  fc_gd (fc_ix x1 60) <|
  fc_nm (mm_sG st11 18 x1.toNatClampNeg (mm_I st11 21)) fun st14 =>
  if (mm_I st14 22) = 0 then (
  some ((1 : Int32), st14))
  else (
  if r7 = (41 : Int32) then (
  fc_nm (mm_sI st14 22 ((mm_I st14 22) - (1 : Int32))) fun st17 =>
  fc_nm (mm_sI st17 23 ((mm_I st17 23) - (1 : Int32))) fun st18 =>
  fc_nm (mm_sI st18 11 ((mm_I st18 11) + (1 : Int32))) fun st19 =>
  fc_bv (M_whole fu st19) fun st20 =>
  K22 x1 x2 st20)
  else (
  some ((0 : Int32), st14))))))
  else (
  if r7 = (33 : Int32) then (
  M_takesE_b43 fu K22 x1 x2 r7 st5)
  else (
  if r7 = (40 : Int32) then (
  M_takesE_b43 fu K22 x1 x2 r7 st5)
  else (
  fc_bn (M_takesTest fu st5) fun r26 st24 =>
  if r26 = 0 then (
  some ((0 : Int32), st24))
  else (
  K22 x1 (0 : Int32) st24))))
def M_takesE_b22 (fu : Nat) (n : Nat) (x1 : Int32) (x2 : Int32) (st : mm_S) : Option (Int32 × mm_S) :=
  fc_lp (fun (K : Int32 × Int32 × mm_S → Option (Int32 × mm_S)) a => M_takesE_b22F fu (fun x1 x2 st => K (x1, x2, st)) a.1 a.2.1 a.2.2) n (x1, x2, st)
def M_takesE (fu : Nat) (x1 : Int32) (st : mm_S) : Option (Int32 × mm_S) :=
  fc_nm (mm_sI st 22 (0 : Int32)) fun st1 =>
  fc_nm (mm_sI st1 23 (0 : Int32)) fun st2 =>
  fc_gd (fc_ix x1 60) <|
  fc_nm (mm_sG st2 17 x1.toNatClampNeg (mm_I st2 21)) fun st4 =>
  M_takesE_b22 fu fu x1 (1 : Int32) st4
/-! takesHead -/
def M_takesHead (fu : Nat) (x1 : Int32) (st : mm_S) : Option (Int32 × mm_S) :=
  fc_bn (M_next fu st) fun r3 st1 =>
  if r3 = (102 : Int32) then (
  fc_gd (fc_ix x1 60) <|
  fc_nm (mm_sG st1 15 x1.toNatClampNeg (0 : Int32)) fun st6 =>
  fc_bn (M_takesWord fu (0 : Int32) (4 : Int32) st6) fun r9 st7 =>
  fc_gd (fc_zb r9) <|
  some (r9, st7))
  else (
  if r3 = (115 : Int32) then (
  fc_gd (fc_ix x1 60) <|
  fc_nm (mm_sG st1 15 x1.toNatClampNeg (1 : Int32)) fun st13 =>
  fc_bn (M_takesWord fu (4 : Int32) (5 : Int32) st13) fun r16 st14 =>
  fc_gd (fc_zb r16) <|
  some (r16, st14))
  else (
  fc_gd (fc_ix x1 60) <|
  fc_nm (mm_sG st1 15 x1.toNatClampNeg (2 : Int32)) fun st19 =>
  fc_bn (M_takesWord fu (9 : Int32) (4 : Int32) st19) fun r22 st20 =>
  fc_gd (fc_zb r22) <|
  some (r22, st20)))
/-! takesClause -/
def M_takesClause (fu : Nat) (x1 : Int32) (st : mm_S) : Option (Int32 × mm_S) :=
  fc_bn (M_takesHead fu x1 st) fun r3 st1 =>
  if r3 = 0 then (
  some ((0 : Int32), st1))
  else (
  fc_bn (M_takesNumber fu st1) fun r7 st5 =>
  if r7 = 0 then (
  some ((0 : Int32), st5))
  else (
  fc_gd (fc_ix x1 60) <|
  fc_nm (mm_sG st5 16 x1.toNatClampNeg (mm_I st5 12)) fun st10 =>
  fc_gd (fc_ix x1 60) <|
  if (mm_G st10 15 x1.toNatClampNeg) = (2 : Int32) then (
  some ((1 : Int32), st10))
  else (
  fc_bn (M_takes fu (32 : Int32) st10) fun r15 st13 =>
  if r15 = 0 then (
  some ((0 : Int32), st13))
  else (
  fc_bn (M_takesE fu x1 st13) fun r19 st17 =>
  if r19 = 0 then (
  some ((0 : Int32), st17))
  else (
  some ((1 : Int32), st17))))))
/-! goesText -/
def M_goesText_b15F (fu : Nat) (K15 : Int32 → Int32 → mm_S → Option (Int32 × mm_S)) (x1 : Int32) (x2 : Int32) (st : mm_S) : Option (Int32 × mm_S) :=
  fc_bn (M_takesClause fu (((10 : Int32) * x1) + x2) st) fun r5 st3 =>
  if r5 = 0 then (
  some ((0 : Int32), st3))
  else (
  fc_nm (x2 + (1 : Int32)) fun v7 =>
  fc_gd (fc_ix x1 6) <|
  fc_nm (mm_sG st3 14 x1.toNatClampNeg v7) fun st9 =>
  if (mm_I st9 11) = (mm_I st9 10) then (
  some ((1 : Int32), st9))
  else (
  if v7 = (10 : Int32) then (
  some ((0 : Int32), st9))
  else (
  fc_bn (M_takes fu (59 : Int32) st9) fun r14 st12 =>
  if r14 = 0 then (
  some ((0 : Int32), st12))
  else (
  K15 x1 v7 st12))))
def M_goesText_b15 (fu : Nat) (n : Nat) (x1 : Int32) (x2 : Int32) (st : mm_S) : Option (Int32 × mm_S) :=
  fc_lp (fun (K : Int32 × Int32 × mm_S → Option (Int32 × mm_S)) a => M_goesText_b15F fu (fun x1 x2 st => K (x1, x2, st)) a.1 a.2.1 a.2.2) n (x1, x2, st)
def M_goesText (fu : Nat) (x1 : Int32) (st : mm_S) : Option (Int32 × mm_S) :=
  fc_nm (mm_sI st 11 (0 : Int32)) fun st1 =>
  fc_nm (mm_sI st1 21 ((100 : Int32) * x1)) fun st2 =>
  M_goesText_b15 fu fu x1 (0 : Int32) st2
/-! archive -/
def M_archive (fu : Nat) (st : mm_S) : Option (Int32 × mm_S) :=
  if (mm_I st 8) = (6 : Int32) then (
  some ((-4 : Int32), st))
  else (
  fc_bn (M_goesText fu (mm_I st 8) st) fun r4 st2 =>
  fc_nm (mm_sI st2 10 (0 : Int32)) fun st5 =>
  if r4 = 0 then (
  some (((-10 : Int32) - (mm_I st5 11)), st5))
  else (
  fc_nm (mm_sI st5 9 (mm_I st5 8)) fun st7 =>
  fc_nm (mm_sI st7 8 ((mm_I st7 8) + (1 : Int32))) fun st8 =>
  some ((mm_I st8 9), st8)))
/-! begin -/
def M_begin (fu : Nat) (st : mm_S) : Option (Int32 × mm_S) :=
  if 0 ≤ (mm_I st 9) then (
  some (((10 : Int32) * (mm_I st 9)), st))
  else (
  some ((0 : Int32), st))
/-! behind -/
def M_behind (fu : Nat) (st : mm_S) : Option (Int32 × mm_S) :=
  if 0 ≤ (mm_I st 9) then (
  fc_gd (fc_ix (mm_I st 9) 6) <|
  some ((((10 : Int32) * (mm_I st 9)) + (mm_G st 14 (mm_I st 9).toNatClampNeg)), st))
  else (
  some ((0 : Int32), st))
/-! keep -/
def M_keep_b35 (fu : Nat) (K7 : Int32 → Int32 → mm_S → Option (Int32 × mm_S)) (x2 : Int32) (s0 : Int32) (st : mm_S) : Option (Int32 × mm_S) :=
  fc_nm (x2 + (1 : Int32)) fun v11 =>
  K7 s0 v11 st
def M_keep_b7F (fu : Nat) (K7 : Int32 → Int32 → mm_S → Option (Int32 × mm_S)) (x1 : Int32) (x2 : Int32) (st : mm_S) : Option (Int32 × mm_S) :=
  fc_bn (M_behind fu st) fun r6 st4 =>
  if r6 ≤ x2 then (
  some (x1, st4))
  else (
  fc_gd (fc_ix x2 60) <|
  if (mm_G st4 15 x2.toNatClampNeg) = (2 : Int32) then (
  fc_gd (fc_ix x2 60) <|
  M_keep_b35 fu K7 x2 (mm_G st4 16 x2.toNatClampNeg) st4)
  else (
  M_keep_b35 fu K7 x2 x1 st4))
def M_keep_b7 (fu : Nat) (n : Nat) (x1 : Int32) (x2 : Int32) (st : mm_S) : Option (Int32 × mm_S) :=
  fc_lp (fun (K : Int32 × Int32 × mm_S → Option (Int32 × mm_S)) a => M_keep_b7F fu (fun x1 x2 st => K (x1, x2, st)) a.1 a.2.1 a.2.2) n (x1, x2, st)
def M_keep (fu : Nat) (st : mm_S) : Option (Int32 × mm_S) :=
  fc_bn (M_begin fu st) fun r3 st1 =>
  M_keep_b7 fu fu (1 : Int32) r3 st1
/-! factOf -/
def M_factOf (fu : Nat) (x1 : Int32) (x2 : Int32) (x3 : Int32) (x4 : Int32) (st : mm_S) : Option (Int32 × mm_S) :=
  if x1 = (0 : Int32) then (
  some (x2, st))
  else (
  if x1 = (1 : Int32) then (
  fc_gd (fc_ix x2 6) <|
  some ((mm_G st 4 x2.toNatClampNeg), st))
  else (
  if x1 = (2 : Int32) then (
  fc_gd (fc_ix x2 6) <|
  some ((mm_G st 5 x2.toNatClampNeg), st))
  else (
  if x1 = (3 : Int32) then (
  some ((x3 - x3 / (10 : Int32) * (10 : Int32)), st))
  else (
  if x1 = (4 : Int32) then (
  some (((x3 / (10 : Int32)) - (x3 / (10 : Int32)) / (10 : Int32) * (10 : Int32)), st))
  else (
  some (x4, st))))))
/-! holds -/
def M_holds_b249 (fu : Nat) (K11 : Int32 → Int32 → Int32 → Int32 → Int32 → Int32 → mm_S → Option (Int32 × mm_S)) (x1 : Int32) (x2 : Int32) (x3 : Int32) (x4 : Int32) (x5 : Int32) (x6 : Int32) (st : mm_S) : Option (Int32 × mm_S) :=
  fc_nm (x6 + (1 : Int32)) fun v39 =>
  K11 x1 x2 x3 x4 x5 v39 st
def M_holds_b245 (fu : Nat) (K11 : Int32 → Int32 → Int32 → Int32 → Int32 → Int32 → mm_S → Option (Int32 × mm_S)) (x1 : Int32) (x2 : Int32) (x3 : Int32) (x4 : Int32) (x5 : Int32) (x6 : Int32) (s0 : Int32) (s1 : Int32) (st : mm_S) : Option (Int32 × mm_S) :=
  fc_gd (fc_ix s1 100) <|
  fc_nm (mm_sG st 25 s1.toNatClampNeg (vp_nar .boolean s0)) fun st33 =>
  fc_nm (x5 + (1 : Int32)) fun v34 =>
  M_holds_b249 fu K11 x1 x2 x3 x4 v34 x6 st33
def M_holds_b147 (fu : Nat) (K11 : Int32 → Int32 → Int32 → Int32 → Int32 → Int32 → mm_S → Option (Int32 × mm_S)) (x1 : Int32) (x2 : Int32) (x3 : Int32) (x4 : Int32) (x5 : Int32) (x6 : Int32) (s0 : Int32) (s1 : Int32) (st : mm_S) : Option (Int32 × mm_S) :=
  fc_gd (fc_ix s1 100) <|
  fc_nm (mm_sG st 25 s1.toNatClampNeg (vp_nar .boolean s0)) fun st36 =>
  M_holds_b249 fu K11 x1 x2 x3 x4 x5 x6 st36
def M_holds_b142 (fu : Nat) (K11 : Int32 → Int32 → Int32 → Int32 → Int32 → Int32 → mm_S → Option (Int32 × mm_S)) (x1 : Int32) (x2 : Int32) (x3 : Int32) (x4 : Int32) (x5 : Int32) (x6 : Int32) (s0 : Int32) (st : mm_S) : Option (Int32 × mm_S) :=
  M_holds_b147 fu K11 x1 x2 x3 x4 x5 x6 (1 : Int32) s0 st
def M_holds_b116 (fu : Nat) (K11 : Int32 → Int32 → Int32 → Int32 → Int32 → Int32 → mm_S → Option (Int32 × mm_S)) (x1 : Int32) (x2 : Int32) (x3 : Int32) (x4 : Int32) (x5 : Int32) (x6 : Int32) (s0 : Int32) (st : mm_S) : Option (Int32 × mm_S) :=
  M_holds_b147 fu K11 x1 x2 x3 x4 x5 x6 (0 : Int32) s0 st
def M_holds_b63 (fu : Nat) (K11 : Int32 → Int32 → Int32 → Int32 → Int32 → Int32 → mm_S → Option (Int32 × mm_S)) (x1 : Int32) (x2 : Int32) (x3 : Int32) (x4 : Int32) (x5 : Int32) (x6 : Int32) (s0 : Int32) (s1 : Int32) (st : mm_S) : Option (Int32 × mm_S) :=
  fc_gd (fc_ix s1 100) <|
  fc_nm (mm_sG st 25 s1.toNatClampNeg (vp_nar .boolean s0)) fun st38 =>
  M_holds_b249 fu K11 x1 x2 x3 x4 x5 x6 st38
def M_holds_b11F (fu : Nat) (K11 : Int32 → Int32 → Int32 → Int32 → Int32 → Int32 → mm_S → Option (Int32 × mm_S)) (x1 : Int32) (x2 : Int32) (x3 : Int32) (x4 : Int32) (x5 : Int32) (x6 : Int32) (st : mm_S) : Option (Int32 × mm_S) :=
  fc_gd (fc_ix x1 60) <|
  if (mm_G st 18 x1.toNatClampNeg) ≤ x6 then (
  fc_gd (fc_ix (0 : Int32) 100) <|
  fc_gd (fc_zb (mm_G st 25 (0 : Int32).toNatClampNeg)) <|
  some ((mm_G st 25 (0 : Int32).toNatClampNeg), st))
  else (
  fc_gd (fc_ix x6 600) <|
  fc_nm (mm_G st 19 x6.toNatClampNeg) fun v8 =>
  if v8 = (-33 : Int32) then (
  fc_gd (fc_ix (x5 - (1 : Int32)) 100) <|
  if (mm_G st 25 (x5 - (1 : Int32)).toNatClampNeg) = 0 then (
  M_holds_b63 fu K11 x1 x2 x3 x4 x5 x6 (1 : Int32) (x5 - (1 : Int32)) st)
  else (
  M_holds_b63 fu K11 x1 x2 x3 x4 x5 x6 (0 : Int32) (x5 - (1 : Int32)) st))
  else (
  if 0 ≤ v8 then (
  fc_bn (M_factOf fu (v8 / (1000 : Int32)) x2 x3 x4 st) fun r13 st11 =>
  fc_nm ((v8 / (100 : Int32)) - (v8 / (100 : Int32)) / (10 : Int32) * (10 : Int32)) fun v14 =>
  if v14 = 0 then (
  if (v8 - v8 / (100 : Int32) * (100 : Int32)) ≤ r13 then (
  M_holds_b245 fu K11 x1 x2 x3 x4 x5 x6 (0 : Int32) x5 st11)
  else (
  M_holds_b245 fu K11 x1 x2 x3 x4 x5 x6 (1 : Int32) x5 st11))
  else (
  if v14 = (1 : Int32) then (
  if r13 = (v8 - v8 / (100 : Int32) * (100 : Int32)) then (
  M_holds_b245 fu K11 x1 x2 x3 x4 x5 x6 (1 : Int32) x5 st11)
  else (
  M_holds_b245 fu K11 x1 x2 x3 x4 x5 x6 (0 : Int32) x5 st11))
  else (
  if r13 ≤ (v8 - v8 / (100 : Int32) * (100 : Int32)) then (
  M_holds_b245 fu K11 x1 x2 x3 x4 x5 x6 (0 : Int32) x5 st11)
  else (
  M_holds_b245 fu K11 x1 x2 x3 x4 x5 x6 (1 : Int32) x5 st11))))
  else (
  fc_nm (x5 + (-1 : Int32)) fun v20 =>
  if v8 = (-38 : Int32) then (
  fc_gd (fc_ix (v20 - (1 : Int32)) 100) <|
  if (mm_G st 25 (v20 - (1 : Int32)).toNatClampNeg) = 0 then (
  M_holds_b116 fu K11 x1 x2 x3 x4 v20 x6 (v20 - (1 : Int32)) st)
  else (
  fc_gd (fc_ix v20 100) <|
  if (mm_G st 25 v20.toNatClampNeg) = 0 then (
  M_holds_b116 fu K11 x1 x2 x3 x4 v20 x6 (v20 - (1 : Int32)) st)
  else (
  M_holds_b147 fu K11 x1 x2 x3 x4 v20 x6 (1 : Int32) (v20 - (1 : Int32)) st)))
  else (
  fc_gd (fc_ix (v20 - (1 : Int32)) 100) <|
  if (mm_G st 25 (v20 - (1 : Int32)).toNatClampNeg) = 0 then (
  fc_gd (fc_ix v20 100) <|
  if (mm_G st 25 v20.toNatClampNeg) = 0 then (
  M_holds_b147 fu K11 x1 x2 x3 x4 v20 x6 (0 : Int32) (v20 - (1 : Int32)) st)
  else (
  M_holds_b142 fu K11 x1 x2 x3 x4 v20 x6 (v20 - (1 : Int32)) st))
  else (
  M_holds_b142 fu K11 x1 x2 x3 x4 v20 x6 (v20 - (1 : Int32)) st)))))
def M_holds_b11 (fu : Nat) (n : Nat) (x1 : Int32) (x2 : Int32) (x3 : Int32) (x4 : Int32) (x5 : Int32) (x6 : Int32) (st : mm_S) : Option (Int32 × mm_S) :=
  fc_lp (fun (K : Int32 × Int32 × Int32 × Int32 × Int32 × Int32 × mm_S → Option (Int32 × mm_S)) a => M_holds_b11F fu (fun x1 x2 x3 x4 x5 x6 st => K (x1, x2, x3, x4, x5, x6, st)) a.1 a.2.1 a.2.2.1 a.2.2.2.1 a.2.2.2.2.1 a.2.2.2.2.2.1 a.2.2.2.2.2.2) n (x1, x2, x3, x4, x5, x6, st)
def M_holds (fu : Nat) (x1 : Int32) (x2 : Int32) (x3 : Int32) (x4 : Int32) (st : mm_S) : Option (Int32 × mm_S) :=
  fc_gd (fc_ix x1 60) <|
  fc_nm (mm_G st 17 x1.toNatClampNeg) fun v2 =>
  M_holds_b11 fu fu x1 x2 x3 x4 (0 : Int32) v2 st
/-! base -/
def M_base_b78 (fu : Nat) (K10 : Int32 → Int32 → Int32 → Int32 → Int32 → mm_S → Option (Int32 × mm_S)) (x1 : Int32) (x2 : Int32) (x3 : Int32) (x4 : Int32) (x5 : Int32) (st : mm_S) : Option (Int32 × mm_S) :=
  fc_nm (x5 + (1 : Int32)) fun v18 =>
  K10 x1 x2 x3 x4 v18 st
def M_base_b75 (fu : Nat) (K10 : Int32 → Int32 → Int32 → Int32 → Int32 → mm_S → Option (Int32 × mm_S)) (x1 : Int32) (x2 : Int32) (x3 : Int32) (x5 : Int32) (s0 : Int32) (s1 : Int32) (st : mm_S) : Option (Int32 × mm_S) :=
  fc_nm (s1 + s0) fun v19 =>
  M_base_b78 fu K10 x1 x2 x3 v19 x5 st
def M_base_b10F (fu : Nat) (K10 : Int32 → Int32 → Int32 → Int32 → Int32 → mm_S → Option (Int32 × mm_S)) (x1 : Int32) (x2 : Int32) (x3 : Int32) (x4 : Int32) (x5 : Int32) (st : mm_S) : Option (Int32 × mm_S) :=
  fc_bn (M_behind fu st) fun r6 st4 =>
  if r6 ≤ x5 then (
  some (x4, st4))
  else (
  fc_gd (fc_ix x5 60) <|
  if (1 : Int32) < (mm_G st4 15 x5.toNatClampNeg) then (
  M_base_b78 fu K10 x1 x2 x3 x4 x5 st4)
  else (
  fc_bn (M_holds fu x5 x1 x2 x3 st4) fun r12 st10 =>
  if r12 = 0 then (
  M_base_b78 fu K10 x1 x2 x3 x4 x5 st10)
  else (
  fc_gd (fc_ix x5 60) <|
  if (mm_G st10 15 x5.toNatClampNeg) = 0 then (
  fc_gd (fc_ix x5 60) <|
  M_base_b75 fu K10 x1 x2 x3 x5 (mm_G st10 16 x5.toNatClampNeg) x4 st10)
  else (
  fc_gd (fc_ix x5 60) <|
  M_base_b75 fu K10 x1 x2 x3 x5 (-(mm_G st10 16 x5.toNatClampNeg)) x4 st10))))
def M_base_b10 (fu : Nat) (n : Nat) (x1 : Int32) (x2 : Int32) (x3 : Int32) (x4 : Int32) (x5 : Int32) (st : mm_S) : Option (Int32 × mm_S) :=
  fc_lp (fun (K : Int32 × Int32 × Int32 × Int32 × Int32 × mm_S → Option (Int32 × mm_S)) a => M_base_b10F fu (fun x1 x2 x3 x4 x5 st => K (x1, x2, x3, x4, x5, st)) a.1 a.2.1 a.2.2.1 a.2.2.2.1 a.2.2.2.2.1 a.2.2.2.2.2) n (x1, x2, x3, x4, x5, st)
def M_base (fu : Nat) (x1 : Int32) (x2 : Int32) (x3 : Int32) (st : mm_S) : Option (Int32 × mm_S) :=
  fc_bn (M_begin fu st) fun r3 st1 =>
  M_base_b10 fu fu x1 x2 x3 (10 : Int32) r3 st1
/-! worthOf -/
def M_worthOf_b159 (fu : Nat) (x6 : Int32) (st : mm_S) : Option (Int32 × mm_S) :=
  if 0 ≤ x6 then (
  some (x6, st))
  else (
  some ((0 : Int32), st))
def M_worthOf_b117 (fu : Nat) (s0 : Int32) (s1 : Int32) (st : mm_S) : Option (Int32 × mm_S) :=
  fc_nm (s1 * s0) fun v21 =>
  M_worthOf_b159 fu v21 st
def M_worthOf_b22 (fu : Nat) (x1 : Int32) (x2 : Int32) (x3 : Int32) (x4 : Int32) (s0 : Int32) (st : mm_S) : Option (Int32 × mm_S) :=
  fc_gd (fc_ix x1 6) <|
  fc_nm (mm_G st 4 x1.toNatClampNeg) fun v6 =>
  if v6 = (1 : Int32) then (
  fc_nm (x4 + (x2 - x2 / (8 : Int32) * (8 : Int32))) fun v8 =>
  M_worthOf_b159 fu v8 st)
  else (
  if v6 = (2 : Int32) then (
  M_worthOf_b159 fu s0 st)
  else (
  if v6 = (3 : Int32) then (
  fc_nm (x4 / (2 : Int32)) fun v11 =>
  M_worthOf_b159 fu v11 st)
  else (
  if v6 = (4 : Int32) then (
  if x3 = (1 : Int32) then (
  M_worthOf_b117 fu (2 : Int32) (x4 + (x2 - x2 / (8 : Int32) * (8 : Int32))) st)
  else (
  M_worthOf_b117 fu (1 : Int32) (x4 + (x2 - x2 / (8 : Int32) * (8 : Int32))) st))
  else (
  if v6 = (5 : Int32) then (
  fc_gd (fc_ix x1 6) <|
  fc_nm (s0 + (mm_G st 5 x1.toNatClampNeg)) fun v16 =>
  M_worthOf_b159 fu v16 st)
  else (
  if v6 = (6 : Int32) then (
  fc_gd (fc_ix (((4 : Int32) * x1) + (x2 - x2 / (4 : Int32) * (4 : Int32))) 24) <|
  fc_nm ((x4 / (2 : Int32)) + (mm_G st 7 (((4 : Int32) * x1) + (x2 - x2 / (4 : Int32) * (4 : Int32))).toNatClampNeg)) fun v19 =>
  M_worthOf_b159 fu v19 st)
  else (
  M_worthOf_b159 fu x4 st))))))
def M_worthOf (fu : Nat) (x1 : Int32) (x2 : Int32) (x3 : Int32) (st : mm_S) : Option (Int32 × mm_S) :=
  fc_bn (M_base fu x1 x2 x3 st) fun r3 st1 =>
  if (x2 - x2 / (2 : Int32) * (2 : Int32)) = (1 : Int32) then (
  M_worthOf_b22 fu x1 x2 x3 r3 (0 : Int32) st1)
  else (
  M_worthOf_b22 fu x1 x2 x3 r3 r3 st1)
/-! of -/
def M_of (fu : Nat) (x1 : Int32) (x2 : Int32) (st : mm_S) : Option (Int32 × mm_S) :=
  fc_bn (M_isNeed fu x1 st) fun r3 st1 =>
  if r3 = 0 then (
  some ((-1 : Int32), st1))
  else (
  if x2 = (0 : Int32) then (
  fc_gd (fc_ix x1 6) <|
  some ((mm_G st1 4 x1.toNatClampNeg), st1))
  else (
  if x2 = (1 : Int32) then (
  fc_gd (fc_ix x1 6) <|
  some ((mm_G st1 5 x1.toNatClampNeg), st1))
  else (
  if x2 = (2 : Int32) then (
  fc_gd (fc_ix x1 6) <|
  some ((mm_G st1 6 x1.toNatClampNeg), st1))
  else (
  if x2 = (3 : Int32) then (
  fc_bn (M_worthOf fu x1 (mm_I st1 3) (mm_I st1 1) st1) fun r14 st12 =>
  some (r14, st12))
  else (
  some ((-1 : Int32), st1))))))
/-! worth -/
def M_worth (fu : Nat) (x1 : Int32) (x2 : Int32) (x3 : Int32) (st : mm_S) : Option (Int32 × mm_S) :=
  fc_bn (M_isNeed fu x1 st) fun r3 st1 =>
  if r3 = 0 then (
  some ((-1 : Int32), st1))
  else (
  fc_bn (M_in fu x2 (0 : Int32) (60 : Int32) st1) fun r7 st5 =>
  if r7 = 0 then (
  some ((-2 : Int32), st5))
  else (
  fc_bn (M_isDarks fu x3 st5) fun r11 st9 =>
  if r11 = 0 then (
  some ((-2 : Int32), st9))
  else (
  fc_bn (M_worthOf fu x1 ((mm_I st9 3) + x2) x3 st9) fun r15 st13 =>
  some (r15, st13))))
/-! held -/
def M_held (fu : Nat) (x1 : Int32) (st : mm_S) : Option (Int32 × mm_S) :=
  if x1 ≤ (999999 : Int32) then (
  if (-999999 : Int32) ≤ x1 then (
  some (x1, st))
  else (
  some ((-999999 : Int32), st)))
  else (
  some ((999999 : Int32), st))
/-! serve -/
def M_serve (fu : Nat) (x1 : Int32) (st : mm_S) : Option (Int32 × mm_S) :=
  fc_bn (M_isNeed fu x1 st) fun r3 st1 =>
  if r3 = 0 then (
  some ((-10000001 : Int32), st1))
  else (
  if (mm_I st1 1) = 0 then (
  some ((-10000002 : Int32), st1))
  else (
  if (mm_I st1 3) = (9999 : Int32) then (
  some ((-10000002 : Int32), st1))
  else (
  fc_gd (fc_ix x1 6) <|
  if (mm_G st1 6 x1.toNatClampNeg) = (9999 : Int32) then (
  some ((-10000002 : Int32), st1))
  else (
  fc_bn (M_worthOf fu x1 (mm_I st1 3) (mm_I st1 1) st1) fun r11 st9 =>
  fc_nm (mm_sI st9 1 ((mm_I st9 1) - (1 : Int32))) fun st12 =>
  fc_gd (fc_ix x1 6) <|
  fc_gd (fc_ix x1 6) <|
  fc_nm (mm_sG st12 6 x1.toNatClampNeg ((mm_G st12 6 x1.toNatClampNeg) + (1 : Int32))) fun st15 =>
  fc_bn (M_keep fu st15) fun r18 st16 =>
  fc_bn (M_held fu (((mm_I st15 2) + r11) - (r18 * (mm_I st16 1))) st16) fun r21 st19 =>
  fc_nm (mm_sI st19 2 r21) fun st22 =>
  fc_nm (mm_sI st22 3 ((mm_I st22 3) + (1 : Int32))) fun st23 =>
  some ((mm_I st23 2), st23)))))
/-! spare -/
def M_spare (fu : Nat) (x1 : Int32) (st : mm_S) : Option (Int32 × mm_S) :=
  fc_bn (M_isNeed fu x1 st) fun r3 st1 =>
  if r3 = 0 then (
  some ((-10000001 : Int32), st1))
  else (
  if (mm_I st1 3) = (9999 : Int32) then (
  some ((-10000002 : Int32), st1))
  else (
  fc_bn (M_keep fu st1) fun r8 st6 =>
  fc_bn (M_held fu ((mm_I st1 2) - (r8 * (mm_I st6 1))) st6) fun r11 st9 =>
  fc_nm (mm_sI st9 2 r11) fun st12 =>
  fc_nm (mm_sI st12 3 ((mm_I st12 3) + (1 : Int32))) fun st13 =>
  some ((mm_I st13 2), st13)))
/-! told -/
def M_told (fu : Nat) (x1 : Int32) (st : mm_S) : Option (Int32 × mm_S) :=
  if x1 = (0 : Int32) then (
  some ((mm_I st 3), st))
  else (
  if x1 = (1 : Int32) then (
  some ((mm_I st 1), st))
  else (
  if x1 = (2 : Int32) then (
  some ((mm_I st 2), st))
  else (
  if x1 = (3 : Int32) then (
  fc_bn (M_keep fu st) fun r7 st5 =>
  some (r7, st5))
  else (
  some ((-10000001 : Int32), st)))))
/-! ways -/
def M_ways_b5F (fu : Nat) (K5 : Int32 → Int64 → Int32 → mm_S → Option (Int64 × mm_S)) (x1 : Int32) (x2 : Int64) (x4 : Int32) (st : mm_S) : Option (Int64 × mm_S) :=
  if x1 ≤ x4 then (
  some (x2, st))
  else (
  fc_nm (x2 * (((mm_I st 0)).toInt64)) fun v2 =>
  fc_nm (x4 + (1 : Int32)) fun v3 =>
  K5 x1 v2 v3 st)
def M_ways_b5 (fu : Nat) (n : Nat) (x1 : Int32) (x2 : Int64) (x4 : Int32) (st : mm_S) : Option (Int64 × mm_S) :=
  fc_lp (fun (K : Int32 × Int64 × Int32 × mm_S → Option (Int64 × mm_S)) a => M_ways_b5F fu (fun x1 x2 x4 st => K (x1, x2, x4, st)) a.1 a.2.1 a.2.2.1 a.2.2.2) n (x1, x2, x4, st)
def M_ways (fu : Nat) (x1 : Int32) (st : mm_S) : Option (Int64 × mm_S) :=
  M_ways_b5 fu fu x1 (1 : Int64) (0 : Int32) st
/-! ifServed -/
def M_ifServed (fu : Nat) (x1 : Int32) (x2 : Int32) (x3 : Int32) (x4 : Int32) (st : mm_S) : Option (Int64 × mm_S) :=
  fc_bn (M_ways fu ((x3 - x2) - (1 : Int32)) st) fun r3 st1 =>
  fc_bn (M_worthOf fu x1 ((mm_I st1 3) + x2) x4 st1) fun r6 st4 =>
  fc_bn (M_keep fu st4) fun r9 st7 =>
  fc_gd (fc_ix (((((10 : Int32) * x2) + (10 : Int32)) + x4) - (1 : Int32)) 90) <|
  some (((r3 * (((r6 - (r9 * (x4 - (1 : Int32))))).toInt64)) + (mm_L st7 26 (((((10 : Int32) * x2) + (10 : Int32)) + x4) - (1 : Int32)).toNatClampNeg)), st7)
/-! ifSpared -/
def M_ifSpared (fu : Nat) (x1 : Int32) (x2 : Int32) (x3 : Int32) (st : mm_S) : Option (Int64 × mm_S) :=
  fc_bn (M_ways fu ((x2 - x1) - (1 : Int32)) st) fun r3 st1 =>
  fc_bn (M_keep fu st1) fun r6 st4 =>
  fc_gd (fc_ix ((((10 : Int32) * x1) + (10 : Int32)) + x3) 90) <|
  some (((r3 * ((((-r6) * x3)).toInt64)) + (mm_L st4 26 ((((10 : Int32) * x1) + (10 : Int32)) + x3).toNatClampNeg)), st4)
/-! gainOf -/
def M_gainOf_b89 (fu : Nat) (x6 : Int64) (x8 : Int64) (s0 : Int32) (st : mm_S) : Option (Int64 × mm_S) :=
  if s0 = 0 then (
  some (x6, st))
  else (
  some (x8, st))
def M_gainOf (fu : Nat) (x1 : Int32) (x2 : Int32) (x3 : Int32) (x4 : Int32) (x5 : Int32) (st : mm_S) : Option (Int64 × mm_S) :=
  fc_bn (M_ifSpared fu x3 x4 x5 st) fun r3 st1 =>
  if x5 = 0 then (
  some (r3, st1))
  else (
  fc_bn (M_ifServed fu x2 x3 x4 x5 st1) fun r7 st5 =>
  if x1 = 0 then (
  if (lg_cmp r7 r3) ≤ 0 then (
  some (r3, st5))
  else (
  some (r7, st5)))
  else (
  if x1 = (1 : Int32) then (
  fc_bn (M_worthOf fu x2 ((mm_I st5 3) + x3) x5 st5) fun r15 st13 =>
  if r15 ≤ 0 then (
  M_gainOf_b89 fu r3 r7 (0 : Int32) st13)
  else (
  M_gainOf_b89 fu r3 r7 (1 : Int32) st13))
  else (
  fc_bn (M_has fu (mm_I st5 27) x2 st5) fun r12 st10 =>
  M_gainOf_b89 fu r3 r7 r12 st10)))
/-! layGains -/
def M_layGains_b50F (fu : Nat) (K30 : Int32 → Int32 → Int32 → mm_S → Option mm_S) (K37 : Int32 → Int32 → Int32 → Int32 → mm_S → Option mm_S) (K50 : Int32 → Int32 → Int32 → Int32 → Int64 → Int32 → mm_S → Option mm_S) (x1 : Int32) (x2 : Int32) (x3 : Int32) (x4 : Int32) (x5 : Int64) (x7 : Int32) (st : mm_S) : Option mm_S :=
  if (mm_I st 0) ≤ x7 then (
  fc_gd (fc_ix (((10 : Int32) * x3) + x4) 90) <|
  fc_nm (mm_sL st 26 (((10 : Int32) * x3) + x4).toNatClampNeg x5) fun st11 =>
  fc_nm (x4 + (1 : Int32)) fun v12 =>
  K37 x1 x2 x3 v12 st11)
  else (
  fc_bn (M_gainOf fu x1 x7 x3 x2 x4 st) fun r15 st13 =>
  fc_nm (x5 + r15) fun v16 =>
  fc_nm (x7 + (1 : Int32)) fun v17 =>
  K50 x1 x2 x3 x4 v16 v17 st13)
def M_layGains_b50 (fu : Nat) (K30 : Int32 → Int32 → Int32 → mm_S → Option mm_S) (K37 : Int32 → Int32 → Int32 → Int32 → mm_S → Option mm_S) (n : Nat) (x1 : Int32) (x2 : Int32) (x3 : Int32) (x4 : Int32) (x5 : Int64) (x7 : Int32) (st : mm_S) : Option mm_S :=
  fc_lp (fun (K : Int32 × Int32 × Int32 × Int32 × Int64 × Int32 × mm_S → Option mm_S) a => M_layGains_b50F fu K30 K37 (fun x1 x2 x3 x4 x5 x7 st => K (x1, x2, x3, x4, x5, x7, st)) a.1 a.2.1 a.2.2.1 a.2.2.2.1 a.2.2.2.2.1 a.2.2.2.2.2.1 a.2.2.2.2.2.2) n (x1, x2, x3, x4, x5, x7, st)
def M_layGains_b37F (fu : Nat) (K30 : Int32 → Int32 → Int32 → mm_S → Option mm_S) (K37 : Int32 → Int32 → Int32 → Int32 → mm_S → Option mm_S) (x1 : Int32) (x2 : Int32) (x3 : Int32) (x4 : Int32) (st : mm_S) : Option mm_S :=
  if (9 : Int32) ≤ x4 then (
  fc_nm (x3 + (-1 : Int32)) fun v8 =>
  K30 x1 x2 v8 st)
  else (
  M_layGains_b50 fu K30 K37 fu x1 x2 x3 x4 (0 : Int64) (0 : Int32) st)
def M_layGains_b37 (fu : Nat) (K30 : Int32 → Int32 → Int32 → mm_S → Option mm_S) (n : Nat) (x1 : Int32) (x2 : Int32) (x3 : Int32) (x4 : Int32) (st : mm_S) : Option mm_S :=
  fc_lp (fun (K : Int32 × Int32 × Int32 × Int32 × mm_S → Option mm_S) a => M_layGains_b37F fu K30 (fun x1 x2 x3 x4 st => K (x1, x2, x3, x4, st)) a.1 a.2.1 a.2.2.1 a.2.2.2.1 a.2.2.2.2) n (x1, x2, x3, x4, st)
def M_layGains_b30F (fu : Nat) (K30 : Int32 → Int32 → Int32 → mm_S → Option mm_S) (x1 : Int32) (x2 : Int32) (x3 : Int32) (st : mm_S) : Option mm_S :=
  if x3 < 0 then (
  some st)
  else (
  M_layGains_b37 fu K30 fu x1 x2 x3 (0 : Int32) st)
def M_layGains_b30 (fu : Nat) (n : Nat) (x1 : Int32) (x2 : Int32) (x3 : Int32) (st : mm_S) : Option mm_S :=
  fc_lp (fun (K : Int32 × Int32 × Int32 × mm_S → Option mm_S) a => M_layGains_b30F fu (fun x1 x2 x3 st => K (x1, x2, x3, st)) a.1 a.2.1 a.2.2.1 a.2.2.2) n (x1, x2, x3, st)
def M_layGains_b2F (fu : Nat) (K2 : Int32 → Int32 → Int32 → mm_S → Option mm_S) (x1 : Int32) (x2 : Int32) (x3 : Int32) (st : mm_S) : Option mm_S :=
  if (9 : Int32) ≤ x3 then (
  fc_nm (x2 - (1 : Int32)) fun v2 =>
  M_layGains_b30 fu fu x1 x2 v2 st)
  else (
  fc_gd (fc_ix (((10 : Int32) * x2) + x3) 90) <|
  fc_nm (mm_sL st 26 (((10 : Int32) * x2) + x3).toNatClampNeg (0 : Int64)) fun st4 =>
  fc_nm (x3 + (1 : Int32)) fun v5 =>
  K2 x1 x2 v5 st4)
def M_layGains_b2 (fu : Nat) (n : Nat) (x1 : Int32) (x2 : Int32) (x3 : Int32) (st : mm_S) : Option mm_S :=
  fc_lp (fun (K : Int32 × Int32 × Int32 × mm_S → Option mm_S) a => M_layGains_b2F fu (fun x1 x2 x3 st => K (x1, x2, x3, st)) a.1 a.2.1 a.2.2.1 a.2.2.2) n (x1, x2, x3, st)
def M_layGains (fu : Nat) (x1 : Int32) (x2 : Int32) (st : mm_S) : Option mm_S :=
  M_layGains_b2 fu fu x1 x2 (0 : Int32) st
/-! divisor -/
def M_divisor_b17F (fu : Nat) (K17 : Int64 → Int64 → mm_S → Option (Int64 × mm_S)) (x5 : Int64) (x7 : Int64) (st : mm_S) : Option (Int64 × mm_S) :=
  if (lg_cmp x7 (0 : Int64)) = 0 then (
  some (x5, st))
  else (
  fc_gd (fc_nzl x7) <|
  fc_nm (x5 - x5 / x7 * x7) fun v4 =>
  K17 x7 v4 st)
def M_divisor_b17 (fu : Nat) (n : Nat) (x5 : Int64) (x7 : Int64) (st : mm_S) : Option (Int64 × mm_S) :=
  fc_lp (fun (K : Int64 × Int64 × mm_S → Option (Int64 × mm_S)) a => M_divisor_b17F fu (fun x5 x7 st => K (x5, x7, st)) a.1 a.2.1 a.2.2) n (x5, x7, st)
def M_divisor_b12 (fu : Nat) (x3 : Int64) (s0 : Int64) (st : mm_S) : Option (Int64 × mm_S) :=
  M_divisor_b17 fu fu s0 x3 st
def M_divisor (fu : Nat) (x1 : Int64) (x3 : Int64) (st : mm_S) : Option (Int64 × mm_S) :=
  if 0 ≤ (lg_cmp x1 (0 : Int64)) then (
  M_divisor_b12 fu x3 x1 st)
  else (
  M_divisor_b12 fu x3 (-x1) st)
/-! lowest -/
def M_lowest (fu : Nat) (x1 : Int64) (x3 : Int64) (x5 : Int32) (st : mm_S) : Option (Int64 × mm_S) :=
  fc_bn (M_divisor fu x1 x3 st) fun r3 st1 =>
  if x5 = 0 then (
  fc_gd (fc_nzl r3) <|
  some ((x1 / r3), st1))
  else (
  fc_gd (fc_nzl r3) <|
  some ((x3 / r3), st1))
/-! isYears -/
def M_isYears (fu : Nat) (x1 : Int32) (st : mm_S) : Option (Int32 × mm_S) :=
  fc_bn (M_in fu x1 (0 : Int32) (8 : Int32) st) fun r3 st1 =>
  fc_gd (fc_zb r3) <|
  some (r3, st1)
/-! isAsked -/
def M_isAsked (fu : Nat) (x1 : Int32) (x2 : Int32) (st : mm_S) : Option (Int32 × mm_S) :=
  fc_bn (M_isYears fu x1 st) fun r3 st1 =>
  if r3 = 0 then (
  some ((0 : Int32), st1))
  else (
  fc_bn (M_in fu x2 (0 : Int32) (1 : Int32) st1) fun r7 st5 =>
  if r7 = 0 then (
  some ((0 : Int32), st5))
  else (
  if (mm_I st5 0) ≤ 0 then (
  some ((0 : Int32), st5))
  else (
  some ((1 : Int32), st5))))
/-! mean -/
def M_mean (fu : Nat) (x1 : Int32) (x2 : Int32) (st : mm_S) : Option (Int64 × mm_S) :=
  fc_bn (M_isAsked fu x1 x2 st) fun r3 st1 =>
  if r3 = 0 then (
  some ((-9223372036854775808 : Int64), st1))
  else (
  fc_bv (M_layGains fu (0 : Int32) x1 st1) fun st5 =>
  fc_gd (fc_ix (mm_I st5 1) 90) <|
  fc_bn (M_ways fu x1 st5) fun r10 st8 =>
  fc_bn (M_lowest fu (mm_L st5 26 (mm_I st5 1).toNatClampNeg) r10 x2 st8) fun r13 st11 =>
  some (r13, st11))
/-! price -/
def M_price (fu : Nat) (x1 : Int32) (x2 : Int32) (st : mm_S) : Option (Int64 × mm_S) :=
  fc_bn (M_isAsked fu x1 x2 st) fun r3 st1 =>
  if r3 = 0 then (
  some ((-9223372036854775808 : Int64), st1))
  else (
  if (mm_I st1 1) = (8 : Int32) then (
  some ((-9223372036854775808 : Int64), st1))
  else (
  fc_bv (M_layGains fu (0 : Int32) x1 st1) fun st6 =>
  fc_gd (fc_ix ((mm_I st6 1) + (1 : Int32)) 90) <|
  fc_gd (fc_ix (mm_I st6 1) 90) <|
  fc_bn (M_ways fu x1 st6) fun r12 st10 =>
  fc_bn (M_lowest fu ((mm_L st6 26 ((mm_I st6 1) + (1 : Int32)).toNatClampNeg) - (mm_L st6 26 (mm_I st6 1).toNatClampNeg)) r12 x2 st10) fun r15 st13 =>
  some (r15, st13)))
/-! greedy -/
def M_greedy (fu : Nat) (x1 : Int32) (x2 : Int32) (st : mm_S) : Option (Int64 × mm_S) :=
  fc_bn (M_isAsked fu x1 x2 st) fun r3 st1 =>
  if r3 = 0 then (
  some ((-9223372036854775808 : Int64), st1))
  else (
  fc_bv (M_layGains fu (1 : Int32) x1 st1) fun st5 =>
  fc_gd (fc_ix (mm_I st5 1) 90) <|
  fc_bn (M_ways fu x1 st5) fun r10 st8 =>
  fc_bn (M_lowest fu (mm_L st5 26 (mm_I st5 1).toNatClampNeg) r10 x2 st8) fun r13 st11 =>
  some (r13, st11))
/-! only -/
def M_only (fu : Nat) (x1 : Int32) (x2 : Int32) (x3 : Int32) (st : mm_S) : Option (Int64 × mm_S) :=
  fc_bn (M_in fu x1 (0 : Int32) (63 : Int32) st) fun r3 st1 =>
  if r3 = 0 then (
  some ((-9223372036854775808 : Int64), st1))
  else (
  fc_bn (M_isAsked fu x2 x3 st1) fun r7 st5 =>
  if r7 = 0 then (
  some ((-9223372036854775808 : Int64), st5))
  else (
  fc_nm (mm_sI st5 27 x1) fun st9 =>
  fc_bv (M_layGains fu (2 : Int32) x2 st9) fun st10 =>
  fc_gd (fc_ix (mm_I st10 1) 90) <|
  fc_bn (M_ways fu x2 st10) fun r15 st13 =>
  fc_bn (M_lowest fu (mm_L st10 26 (mm_I st10 1).toNatClampNeg) r15 x3 st13) fun r18 st16 =>
  some (r18, st16)))
/-! chosen -/
def M_chosen_b86 (fu : Nat) (K29 : Int32 → Int32 → Int64 → Int32 → mm_S → Option (Int32 × mm_S)) (x1 : Int32) (x2 : Int32) (x3 : Int64) (x5 : Int32) (st : mm_S) : Option (Int32 × mm_S) :=
  fc_nm (x5 + (1 : Int32)) fun v15 =>
  K29 x1 x2 x3 v15 st
def M_chosen_b73 (fu : Nat) (K29 : Int32 → Int32 → Int64 → Int32 → mm_S → Option (Int32 × mm_S)) (x1 : Int32) (x5 : Int32) (st : mm_S) : Option (Int32 × mm_S) :=
  fc_gd (fc_ix (mm_I st 1) 90) <|
  fc_nm (mm_L st 26 (mm_I st 1).toNatClampNeg) fun v14 =>
  M_chosen_b86 fu K29 x1 x5 v14 x5 st
def M_chosen_b29F (fu : Nat) (K29 : Int32 → Int32 → Int64 → Int32 → mm_S → Option (Int32 × mm_S)) (x1 : Int32) (x2 : Int32) (x3 : Int64) (x5 : Int32) (st : mm_S) : Option (Int32 × mm_S) :=
  if ((1 : Int32) <<< ((mm_I st 0) &&& 31)) ≤ x5 then (
  some (x2, st))
  else (
  fc_nm (mm_sI st 27 x5) fun st7 =>
  fc_bv (M_layGains fu (2 : Int32) x1 st7) fun st8 =>
  if x2 < 0 then (
  M_chosen_b73 fu K29 x1 x5 st8)
  else (
  fc_gd (fc_ix (mm_I st8 1) 90) <|
  if 0 < (lg_cmp (mm_L st8 26 (mm_I st8 1).toNatClampNeg) x3) then (
  M_chosen_b73 fu K29 x1 x5 st8)
  else (
  M_chosen_b86 fu K29 x1 x2 x3 x5 st8)))
def M_chosen_b29 (fu : Nat) (n : Nat) (x1 : Int32) (x2 : Int32) (x3 : Int64) (x5 : Int32) (st : mm_S) : Option (Int32 × mm_S) :=
  fc_lp (fun (K : Int32 × Int32 × Int64 × Int32 × mm_S → Option (Int32 × mm_S)) a => M_chosen_b29F fu (fun x1 x2 x3 x5 st => K (x1, x2, x3, x5, st)) a.1 a.2.1 a.2.2.1 a.2.2.2.1 a.2.2.2.2) n (x1, x2, x3, x5, st)
def M_chosen (fu : Nat) (x1 : Int32) (st : mm_S) : Option (Int32 × mm_S) :=
  fc_bn (M_isYears fu x1 st) fun r3 st1 =>
  if r3 = 0 then (
  some ((-2 : Int32), st1))
  else (
  if (mm_I st1 0) = 0 then (
  some ((-5 : Int32), st1))
  else (
  M_chosen_b29 fu fu x1 (-5 : Int32) (0 : Int64) (0 : Int32) st1))
/-! wise -/
def M_wise (fu : Nat) (x1 : Int32) (x2 : Int32) (st : mm_S) : Option (Int32 × mm_S) :=
  fc_bn (M_isNeed fu x1 st) fun r3 st1 =>
  if r3 = 0 then (
  some ((-1 : Int32), st1))
  else (
  fc_bn (M_in fu x2 (1 : Int32) (8 : Int32) st1) fun r7 st5 =>
  if r7 = 0 then (
  some ((-2 : Int32), st5))
  else (
  if (mm_I st5 1) = 0 then (
  some ((0 : Int32), st5))
  else (
  fc_bv (M_layGains fu (0 : Int32) x2 st5) fun st10 =>
  fc_bn (M_ifServed fu x1 (0 : Int32) x2 (mm_I st10 1) st10) fun r14 st12 =>
  fc_bn (M_ifSpared fu (0 : Int32) x2 (mm_I st12 1) st12) fun r17 st15 =>
  if (lg_cmp r14 r17) ≤ 0 then (
  some ((0 : Int32), st15))
  else (
  some ((1 : Int32), st15)))))
/-! spent -/
def M_spent_b135 (fu : Nat) (K57 : Int32 → Int32 → Int32 → mm_S → Option (Int64 × mm_S)) (K64 : Int32 → Int32 → Int32 → Int32 → mm_S → Option (Int64 × mm_S)) (K77 : Int32 → Int32 → Int32 → Int32 → Int64 → Int32 → mm_S → Option (Int64 × mm_S)) (x1 : Int32) (x2 : Int32) (x3 : Int32) (x4 : Int32) (x7 : Int32) (s0 : Int32) (s1 : Int32) (s3 : Int64) (st : mm_S) : Option (Int64 × mm_S) :=
  fc_gd (fc_ix (s1 + s0) 90) <|
  fc_nm (s3 + (mm_L st 28 (s1 + s0).toNatClampNeg)) fun v36 =>
  fc_nm (x7 + (1 : Int32)) fun v37 =>
  K77 x1 x2 x3 x4 v36 v37 st
def M_spent_b133 (fu : Nat) (K57 : Int32 → Int32 → Int32 → mm_S → Option (Int64 × mm_S)) (K64 : Int32 → Int32 → Int32 → Int32 → mm_S → Option (Int64 × mm_S)) (K77 : Int32 → Int32 → Int32 → Int32 → Int64 → Int32 → mm_S → Option (Int64 × mm_S)) (x1 : Int32) (x2 : Int32) (x3 : Int32) (x4 : Int32) (x7 : Int32) (s0 : Int32) (s2 : Int64) (st : mm_S) : Option (Int64 × mm_S) :=
  M_spent_b135 fu K57 K64 K77 x1 x2 x3 x4 x7 x4 s0 s2 st
def M_spent_b77F (fu : Nat) (K57 : Int32 → Int32 → Int32 → mm_S → Option (Int64 × mm_S)) (K64 : Int32 → Int32 → Int32 → Int32 → mm_S → Option (Int64 × mm_S)) (K77 : Int32 → Int32 → Int32 → Int32 → Int64 → Int32 → mm_S → Option (Int64 × mm_S)) (x1 : Int32) (x2 : Int32) (x3 : Int32) (x4 : Int32) (x5 : Int64) (x7 : Int32) (st : mm_S) : Option (Int64 × mm_S) :=
  if (mm_I st 0) ≤ x7 then (
  fc_gd (fc_ix (((10 : Int32) * x3) + x4) 90) <|
  fc_nm (mm_sL st 28 (((10 : Int32) * x3) + x4).toNatClampNeg x5) fun st25 =>
  fc_nm (x4 + (1 : Int32)) fun v26 =>
  K64 x1 x2 x3 v26 st25)
  else (
  if x4 ≤ 0 then (
  M_spent_b133 fu K57 K64 K77 x1 x2 x3 x4 x7 (((10 : Int32) * x3) + (10 : Int32)) x5 st)
  else (
  fc_bn (M_ifServed fu x7 x3 x1 x4 st) fun r30 st28 =>
  fc_bn (M_ifSpared fu x3 x1 x4 st28) fun r33 st31 =>
  if (lg_cmp r30 r33) ≤ 0 then (
  M_spent_b133 fu K57 K64 K77 x1 x2 x3 x4 x7 (((10 : Int32) * x3) + (10 : Int32)) x5 st31)
  else (
  M_spent_b135 fu K57 K64 K77 x1 x2 x3 x4 x7 (x4 - (1 : Int32)) (((10 : Int32) * x3) + (10 : Int32)) x5 st31)))
def M_spent_b77 (fu : Nat) (K57 : Int32 → Int32 → Int32 → mm_S → Option (Int64 × mm_S)) (K64 : Int32 → Int32 → Int32 → Int32 → mm_S → Option (Int64 × mm_S)) (n : Nat) (x1 : Int32) (x2 : Int32) (x3 : Int32) (x4 : Int32) (x5 : Int64) (x7 : Int32) (st : mm_S) : Option (Int64 × mm_S) :=
  fc_lp (fun (K : Int32 × Int32 × Int32 × Int32 × Int64 × Int32 × mm_S → Option (Int64 × mm_S)) a => M_spent_b77F fu K57 K64 (fun x1 x2 x3 x4 x5 x7 st => K (x1, x2, x3, x4, x5, x7, st)) a.1 a.2.1 a.2.2.1 a.2.2.2.1 a.2.2.2.2.1 a.2.2.2.2.2.1 a.2.2.2.2.2.2) n (x1, x2, x3, x4, x5, x7, st)
def M_spent_b64F (fu : Nat) (K57 : Int32 → Int32 → Int32 → mm_S → Option (Int64 × mm_S)) (K64 : Int32 → Int32 → Int32 → Int32 → mm_S → Option (Int64 × mm_S)) (x1 : Int32) (x2 : Int32) (x3 : Int32) (x4 : Int32) (st : mm_S) : Option (Int64 × mm_S) :=
  if (9 : Int32) ≤ x4 then (
  fc_nm (x3 + (-1 : Int32)) fun v22 =>
  K57 x1 x2 v22 st)
  else (
  M_spent_b77 fu K57 K64 fu x1 x2 x3 x4 (0 : Int64) (0 : Int32) st)
def M_spent_b64 (fu : Nat) (K57 : Int32 → Int32 → Int32 → mm_S → Option (Int64 × mm_S)) (n : Nat) (x1 : Int32) (x2 : Int32) (x3 : Int32) (x4 : Int32) (st : mm_S) : Option (Int64 × mm_S) :=
  fc_lp (fun (K : Int32 × Int32 × Int32 × Int32 × mm_S → Option (Int64 × mm_S)) a => M_spent_b64F fu K57 (fun x1 x2 x3 x4 st => K (x1, x2, x3, x4, st)) a.1 a.2.1 a.2.2.1 a.2.2.2.1 a.2.2.2.2) n (x1, x2, x3, x4, st)
def M_spent_b57F (fu : Nat) (K57 : Int32 → Int32 → Int32 → mm_S → Option (Int64 × mm_S)) (x1 : Int32) (x2 : Int32) (x3 : Int32) (st : mm_S) : Option (Int64 × mm_S) :=
  if x3 < 0 then (
  fc_gd (fc_ix (mm_I st 1) 90) <|
  fc_bn (M_ways fu x1 st) fun r14 st12 =>
  fc_bn (M_lowest fu (mm_L st 28 (mm_I st 1).toNatClampNeg) r14 x2 st12) fun r17 st15 =>
  some (r17, st15))
  else (
  M_spent_b64 fu K57 fu x1 x2 x3 (0 : Int32) st)
def M_spent_b57 (fu : Nat) (n : Nat) (x1 : Int32) (x2 : Int32) (x3 : Int32) (st : mm_S) : Option (Int64 × mm_S) :=
  fc_lp (fun (K : Int32 × Int32 × Int32 × mm_S → Option (Int64 × mm_S)) a => M_spent_b57F fu (fun x1 x2 x3 st => K (x1, x2, x3, st)) a.1 a.2.1 a.2.2.1 a.2.2.2) n (x1, x2, x3, st)
def M_spent_b46 (fu : Nat) (K21 : Int32 → Int32 → Int32 → mm_S → Option (Int64 × mm_S)) (x1 : Int32) (x2 : Int32) (x3 : Int32) (s0 : Int64) (s1 : Int32) (st : mm_S) : Option (Int64 × mm_S) :=
  fc_gd (fc_ix s1 90) <|
  fc_nm (mm_sL st 28 s1.toNatClampNeg s0) fun st19 =>
  fc_nm (x3 + (1 : Int32)) fun v20 =>
  K21 x1 x2 v20 st19
def M_spent_b21F (fu : Nat) (K21 : Int32 → Int32 → Int32 → mm_S → Option (Int64 × mm_S)) (x1 : Int32) (x2 : Int32) (x3 : Int32) (st : mm_S) : Option (Int64 × mm_S) :=
  if (9 : Int32) ≤ x3 then (
  fc_nm (x1 - (1 : Int32)) fun v8 =>
  M_spent_b57 fu fu x1 x2 v8 st)
  else (
  if x3 = 0 then (
  M_spent_b46 fu K21 x1 x2 x3 (1 : Int64) (((10 : Int32) * x1) + x3) st)
  else (
  M_spent_b46 fu K21 x1 x2 x3 (0 : Int64) (((10 : Int32) * x1) + x3) st))
def M_spent_b21 (fu : Nat) (n : Nat) (x1 : Int32) (x2 : Int32) (x3 : Int32) (st : mm_S) : Option (Int64 × mm_S) :=
  fc_lp (fun (K : Int32 × Int32 × Int32 × mm_S → Option (Int64 × mm_S)) a => M_spent_b21F fu (fun x1 x2 x3 st => K (x1, x2, x3, st)) a.1 a.2.1 a.2.2.1 a.2.2.2) n (x1, x2, x3, st)
def M_spent (fu : Nat) (x1 : Int32) (x2 : Int32) (st : mm_S) : Option (Int64 × mm_S) :=
  fc_bn (M_isAsked fu x1 x2 st) fun r3 st1 =>
  if r3 = 0 then (
  some ((-9223372036854775808 : Int64), st1))
  else (
  fc_bv (M_layGains fu (0 : Int32) x1 st1) fun st5 =>
  M_spent_b21 fu fu x1 x2 (0 : Int32) st5)
/-! threshold -/
def M_threshold_b51F (fu : Nat) (K51 : Int32 → Int64 → Int32 → mm_S → Option (Int32 × mm_S)) (x1 : Int32) (x2 : Int64) (x4 : Int32) (st : mm_S) : Option (Int32 × mm_S) :=
  if (1000 : Int32) ≤ x4 then (
  some ((-5 : Int32), st))
  else (
  fc_bn (M_ways fu (x1 - (1 : Int32)) st) fun r15 st13 =>
  fc_bn (M_keep fu st13) fun r18 st16 =>
  fc_gd (fc_ix (((10 : Int32) + (mm_I st16 1)) - (1 : Int32)) 90) <|
  if (lg_cmp ((r15 * (((x4 - (r18 * ((mm_I st16 1) - (1 : Int32))))).toInt64)) + (mm_L st16 26 (((10 : Int32) + (mm_I st16 1)) - (1 : Int32)).toNatClampNeg)) x2) ≤ 0 then (
  fc_nm (x4 + (1 : Int32)) fun v21 =>
  K51 x1 x2 v21 st16)
  else (
  some (x4, st16)))
def M_threshold_b51 (fu : Nat) (n : Nat) (x1 : Int32) (x2 : Int64) (x4 : Int32) (st : mm_S) : Option (Int32 × mm_S) :=
  fc_lp (fun (K : Int32 × Int64 × Int32 × mm_S → Option (Int32 × mm_S)) a => M_threshold_b51F fu (fun x1 x2 x4 st => K (x1, x2, x4, st)) a.1 a.2.1 a.2.2.1 a.2.2.2) n (x1, x2, x4, st)
def M_threshold (fu : Nat) (x1 : Int32) (st : mm_S) : Option (Int32 × mm_S) :=
  fc_bn (M_in fu x1 (1 : Int32) (8 : Int32) st) fun r3 st1 =>
  if r3 = 0 then (
  some ((-2 : Int32), st1))
  else (
  if (mm_I st1 1) = 0 then (
  some ((-5 : Int32), st1))
  else (
  if (mm_I st1 0) = 0 then (
  some ((-5 : Int32), st1))
  else (
  fc_bv (M_layGains fu (0 : Int32) x1 st1) fun st7 =>
  fc_bn (M_ifSpared fu (0 : Int32) x1 (mm_I st7 1) st7) fun r11 st9 =>
  M_threshold_b51 fu fu x1 r11 (0 : Int32) st9)))
/-! century -/
def M_century (fu : Nat) (x1 : Int32) (st : mm_S) : Option (Int32 × mm_S) :=
  if x1 = (-1 : Int32) then (
  fc_nm (mm_sI st 29 (0 : Int32)) fun st10 =>
  some ((0 : Int32), st10))
  else (
  fc_bn (M_isNeed fu x1 st) fun r4 st2 =>
  if r4 = 0 then (
  some ((-1 : Int32), st2))
  else (
  if (mm_I st2 29) = (8 : Int32) then (
  some ((-4 : Int32), st2))
  else (
  fc_gd (fc_ix (mm_I st2 29) 8) <|
  fc_nm (mm_sG st2 30 (mm_I st2 29).toNatClampNeg x1) fun st8 =>
  fc_nm (mm_sI st8 29 ((mm_I st8 29) + (1 : Int32))) fun st9 =>
  some ((mm_I st9 29), st9))))
/-! gainBy -/
def M_gainBy_b58 (fu : Nat) (K10 : Int32 → Int32 → Int32 → Int32 → mm_S → Option (Int32 × mm_S)) (x1 : Int32) (x2 : Int32) (x3 : Int32) (x4 : Int32) (st : mm_S) : Option (Int32 × mm_S) :=
  fc_bn (M_keep fu st) fun r16 st14 =>
  fc_nm (x3 - (r16 * x2)) fun v17 =>
  fc_nm (x4 + (1 : Int32)) fun v18 =>
  K10 x1 x2 v17 v18 st14
def M_gainBy_b10F (fu : Nat) (K10 : Int32 → Int32 → Int32 → Int32 → mm_S → Option (Int32 × mm_S)) (x1 : Int32) (x2 : Int32) (x3 : Int32) (x4 : Int32) (st : mm_S) : Option (Int32 × mm_S) :=
  if (mm_I st 29) ≤ x4 then (
  some (x3, st))
  else (
  fc_bn (M_has fu x1 x4 st) fun r5 st3 =>
  if r5 = 0 then (
  M_gainBy_b58 fu K10 x1 x2 x3 x4 st3)
  else (
  if x2 ≤ 0 then (
  M_gainBy_b58 fu K10 x1 x2 x3 x4 st3)
  else (
  fc_gd (fc_ix x4 8) <|
  fc_bn (M_worthOf fu (mm_G st3 30 x4.toNatClampNeg) ((mm_I st3 3) + x4) x2 st3) fun r11 st9 =>
  fc_nm (x3 + r11) fun v12 =>
  fc_nm (x2 + (-1 : Int32)) fun v13 =>
  M_gainBy_b58 fu K10 x1 v13 v12 x4 st9)))
def M_gainBy_b10 (fu : Nat) (n : Nat) (x1 : Int32) (x2 : Int32) (x3 : Int32) (x4 : Int32) (st : mm_S) : Option (Int32 × mm_S) :=
  fc_lp (fun (K : Int32 × Int32 × Int32 × Int32 × mm_S → Option (Int32 × mm_S)) a => M_gainBy_b10F fu (fun x1 x2 x3 x4 st => K (x1, x2, x3, x4, st)) a.1 a.2.1 a.2.2.1 a.2.2.2.1 a.2.2.2.2) n (x1, x2, x3, x4, st)
def M_gainBy (fu : Nat) (x1 : Int32) (st : mm_S) : Option (Int32 × mm_S) :=
  fc_nm (mm_I st 1) fun v1 =>
  M_gainBy_b10 fu fu x1 v1 (0 : Int32) (0 : Int32) st
/-! bestSet -/
def M_bestSet_b41 (fu : Nat) (K4 : Int32 → Int32 → mm_S → Option (Int32 × mm_S)) (x1 : Int32) (x2 : Int32) (st : mm_S) : Option (Int32 × mm_S) :=
  fc_nm (x2 + (1 : Int32)) fun v13 =>
  K4 x1 v13 st
def M_bestSet_b4F (fu : Nat) (K4 : Int32 → Int32 → mm_S → Option (Int32 × mm_S)) (x1 : Int32) (x2 : Int32) (st : mm_S) : Option (Int32 × mm_S) :=
  if ((1 : Int32) <<< ((mm_I st 29) &&& 31)) ≤ x2 then (
  some (x1, st))
  else (
  fc_bn (M_bits fu x2 st) fun r4 st2 =>
  if (mm_I st2 1) < r4 then (
  M_bestSet_b41 fu K4 x1 x2 st2)
  else (
  fc_bn (M_gainBy fu x2 st2) fun r8 st6 =>
  fc_bn (M_gainBy fu x1 st6) fun r11 st9 =>
  if r8 ≤ r11 then (
  M_bestSet_b41 fu K4 x1 x2 st9)
  else (
  M_bestSet_b41 fu K4 x2 x2 st9)))
def M_bestSet_b4 (fu : Nat) (n : Nat) (x1 : Int32) (x2 : Int32) (st : mm_S) : Option (Int32 × mm_S) :=
  fc_lp (fun (K : Int32 × Int32 × mm_S → Option (Int32 × mm_S)) a => M_bestSet_b4F fu (fun x1 x2 st => K (x1, x2, st)) a.1 a.2.1 a.2.2) n (x1, x2, st)
def M_bestSet (fu : Nat) (st : mm_S) : Option (Int32 × mm_S) :=
  M_bestSet_b4 fu fu (0 : Int32) (1 : Int32) st
/-! plan -/
def M_plan (fu : Nat) (x1 : Int32) (st : mm_S) : Option (Int32 × mm_S) :=
  fc_bn (M_in fu x1 (0 : Int32) (1 : Int32) st) fun r3 st1 =>
  if r3 = 0 then (
  some ((-10000001 : Int32), st1))
  else (
  if x1 = 0 then (
  fc_bn (M_bestSet fu st1) fun r14 st12 =>
  some (r14, st12))
  else (
  fc_bn (M_bestSet fu st1) fun r8 st6 =>
  fc_bn (M_gainBy fu r8 st6) fun r11 st9 =>
  some (r11, st9)))
/-! ends -/
def M_ends (fu : Nat) (x1 : Int32) (st : mm_S) : Option (Int32 × mm_S) :=
  fc_bn (M_in fu x1 (0 : Int32) (1 : Int32) st) fun r3 st1 =>
  if r3 = 0 then (
  some ((-10000001 : Int32), st1))
  else (
  if x1 = 0 then (
  fc_bn (M_gainBy fu (0 : Int32) st1) fun r11 st9 =>
  some (r11, st9))
  else (
  fc_bn (M_gainBy fu (255 : Int32) st1) fun r8 st6 =>
  some (r8, st6)))
/-! see -/
def M_see (fu : Nat) (x1 : Int32) (x2 : Int32) (x3 : Int32) (st : mm_S) : Option (Int32 × mm_S) :=
  if x1 = (-1 : Int32) then (
  fc_nm (mm_sI st 31 (0 : Int32)) fun st22 =>
  some ((0 : Int32), st22))
  else (
  fc_bn (M_isNeed fu x1 st) fun r4 st2 =>
  if r4 = 0 then (
  some ((-1 : Int32), st2))
  else (
  fc_bn (M_in fu x2 (0 : Int32) (999 : Int32) st2) fun r8 st6 =>
  if r8 = 0 then (
  some ((-2 : Int32), st6))
  else (
  fc_bn (M_in fu x3 (0 : Int32) (20 : Int32) st6) fun r12 st10 =>
  if r12 = 0 then (
  some ((-2 : Int32), st10))
  else (
  if (mm_I st10 31) = (5 : Int32) then (
  some ((-4 : Int32), st10))
  else (
  fc_gd (fc_ix (mm_I st10 31) 5) <|
  fc_nm (mm_sG st10 33 (mm_I st10 31).toNatClampNeg x1) fun st16 =>
  fc_gd (fc_ix (mm_I st16 31) 5) <|
  fc_nm (mm_sG st16 34 (mm_I st16 31).toNatClampNeg x2) fun st18 =>
  fc_gd (fc_ix (mm_I st18 31) 5) <|
  fc_nm (mm_sG st18 35 (mm_I st18 31).toNatClampNeg x3) fun st20 =>
  fc_nm (mm_sI st20 31 ((mm_I st20 31) + (1 : Int32))) fun st21 =>
  some ((mm_I st21 31), st21))))))
/-! isSeen -/
def M_isSeen_b2F (fu : Nat) (K2 : Int32 → Int32 → mm_S → Option (Int32 × mm_S)) (x1 : Int32) (x2 : Int32) (st : mm_S) : Option (Int32 × mm_S) :=
  if (mm_I st 31) ≤ x2 then (
  some ((1 : Int32), st))
  else (
  fc_gd (fc_ix x2 5) <|
  fc_gd (fc_ix x2 5) <|
  fc_bn (M_worthOf fu (mm_G st 33 x2.toNatClampNeg) ((mm_I st 3) + (mm_G st 35 x2.toNatClampNeg)) x1 st) fun r6 st4 =>
  fc_gd (fc_ix x2 5) <|
  if r6 = (mm_G st4 34 x2.toNatClampNeg) then (
  fc_nm (x2 + (1 : Int32)) fun v9 =>
  K2 x1 v9 st4)
  else (
  some ((0 : Int32), st4)))
def M_isSeen_b2 (fu : Nat) (n : Nat) (x1 : Int32) (x2 : Int32) (st : mm_S) : Option (Int32 × mm_S) :=
  fc_lp (fun (K : Int32 × Int32 × mm_S → Option (Int32 × mm_S)) a => M_isSeen_b2F fu (fun x1 x2 st => K (x1, x2, st)) a.1 a.2.1 a.2.2) n (x1, x2, st)
def M_isSeen (fu : Nat) (x1 : Int32) (st : mm_S) : Option (Int32 × mm_S) :=
  M_isSeen_b2 fu fu x1 (0 : Int32) st
/-! can -/
def M_can_b72 (fu : Nat) (K38 : Int32 → Int32 → Int32 → Int32 → Int32 → Int32 → mm_S → Option (Int32 × mm_S)) (x1 : Int32) (x2 : Int32) (x3 : Int32) (x4 : Int32) (x5 : Int32) (x6 : Int32) (st : mm_S) : Option (Int32 × mm_S) :=
  fc_nm (x6 + (-1 : Int32)) fun v22 =>
  K38 x1 x2 x3 x4 x5 v22 st
def M_can_b38F (fu : Nat) (K38 : Int32 → Int32 → Int32 → Int32 → Int32 → Int32 → mm_S → Option (Int32 × mm_S)) (x1 : Int32) (x2 : Int32) (x3 : Int32) (x4 : Int32) (x5 : Int32) (x6 : Int32) (st : mm_S) : Option (Int32 × mm_S) :=
  if x6 < 0 then (
  fc_gd (fc_ix x1 6) <|
  fc_nm (mm_sG st 5 x1.toNatClampNeg x3) fun st13 =>
  if x2 = 0 then (
  some (x4, st13))
  else (
  some (x5, st13)))
  else (
  fc_gd (fc_ix x1 6) <|
  fc_nm (mm_sG st 5 x1.toNatClampNeg x6) fun st16 =>
  fc_bn (M_isSeen fu (mm_I st16 1) st16) fun r19 st17 =>
  if r19 = 0 then (
  M_can_b72 fu K38 x1 x2 x3 x4 x5 x6 st17)
  else (
  fc_nm (x4 + (1 : Int32)) fun v21 =>
  M_can_b72 fu K38 x1 x2 x3 v21 x6 x6 st17))
def M_can_b38 (fu : Nat) (n : Nat) (x1 : Int32) (x2 : Int32) (x3 : Int32) (x4 : Int32) (x5 : Int32) (x6 : Int32) (st : mm_S) : Option (Int32 × mm_S) :=
  fc_lp (fun (K : Int32 × Int32 × Int32 × Int32 × Int32 × Int32 × mm_S → Option (Int32 × mm_S)) a => M_can_b38F fu (fun x1 x2 x3 x4 x5 x6 st => K (x1, x2, x3, x4, x5, x6, st)) a.1 a.2.1 a.2.2.1 a.2.2.2.1 a.2.2.2.2.1 a.2.2.2.2.2.1 a.2.2.2.2.2.2) n (x1, x2, x3, x4, x5, x6, st)
def M_can (fu : Nat) (x1 : Int32) (x2 : Int32) (st : mm_S) : Option (Int32 × mm_S) :=
  fc_bn (M_isNeed fu x1 st) fun r3 st1 =>
  if r3 = 0 then (
  some ((-1 : Int32), st1))
  else (
  fc_bn (M_in fu x2 (0 : Int32) (1 : Int32) st1) fun r7 st5 =>
  if r7 = 0 then (
  some ((-1 : Int32), st5))
  else (
  fc_gd (fc_ix x1 6) <|
  fc_nm (mm_G st5 5 x1.toNatClampNeg) fun v10 =>
  M_can_b38 fu fu x1 x2 v10 (0 : Int32) (-5 : Int32) (9 : Int32) st5))
/-! darked -/
def M_darked_b44 (fu : Nat) (K21 : Int32 → Int32 → Int32 → Int32 → mm_S → Option (Int32 × mm_S)) (x1 : Int32) (x2 : Int32) (x3 : Int32) (x4 : Int32) (st : mm_S) : Option (Int32 × mm_S) :=
  fc_nm (x4 + (-1 : Int32)) fun v12 =>
  K21 x1 x2 x3 v12 st
def M_darked_b21F (fu : Nat) (K21 : Int32 → Int32 → Int32 → Int32 → mm_S → Option (Int32 × mm_S)) (x1 : Int32) (x2 : Int32) (x3 : Int32) (x4 : Int32) (st : mm_S) : Option (Int32 × mm_S) :=
  if x4 < 0 then (
  if x1 = 0 then (
  some (x2, st))
  else (
  some (x3, st)))
  else (
  fc_bn (M_isSeen fu x4 st) fun r9 st7 =>
  if r9 = 0 then (
  M_darked_b44 fu K21 x1 x2 x3 x4 st7)
  else (
  fc_nm (x2 + (1 : Int32)) fun v11 =>
  M_darked_b44 fu K21 x1 v11 x4 x4 st7))
def M_darked_b21 (fu : Nat) (n : Nat) (x1 : Int32) (x2 : Int32) (x3 : Int32) (x4 : Int32) (st : mm_S) : Option (Int32 × mm_S) :=
  fc_lp (fun (K : Int32 × Int32 × Int32 × Int32 × mm_S → Option (Int32 × mm_S)) a => M_darked_b21F fu (fun x1 x2 x3 x4 st => K (x1, x2, x3, x4, st)) a.1 a.2.1 a.2.2.1 a.2.2.2.1 a.2.2.2.2) n (x1, x2, x3, x4, st)
def M_darked (fu : Nat) (x1 : Int32) (st : mm_S) : Option (Int32 × mm_S) :=
  fc_bn (M_in fu x1 (0 : Int32) (1 : Int32) st) fun r3 st1 =>
  if r3 = 0 then (
  some ((-1 : Int32), st1))
  else (
  M_darked_b21 fu fu x1 (0 : Int32) (-5 : Int32) (8 : Int32) st1)
/-! book -/
def M_book (fu : Nat) (x1 : Int32) (x2 : Int32) (st : mm_S) : Option (Int32 × mm_S) :=
  if x1 = (-1 : Int32) then (
  fc_nm (mm_sI st 32 (0 : Int32)) fun st16 =>
  some ((0 : Int32), st16))
  else (
  fc_bn (M_isNeed fu x1 st) fun r4 st2 =>
  if r4 = 0 then (
  some ((-1 : Int32), st2))
  else (
  fc_bn (M_in fu x2 (0 : Int32) (9999 : Int32) st2) fun r8 st6 =>
  if r8 = 0 then (
  some ((-2 : Int32), st6))
  else (
  if (mm_I st6 32) = (8 : Int32) then (
  some ((-4 : Int32), st6))
  else (
  fc_gd (fc_ix (mm_I st6 32) 8) <|
  fc_nm (mm_sG st6 36 (mm_I st6 32).toNatClampNeg x1) fun st12 =>
  fc_gd (fc_ix (mm_I st12 32) 8) <|
  fc_nm (mm_sG st12 37 (mm_I st12 32).toNatClampNeg x2) fun st14 =>
  fc_nm (mm_sI st14 32 ((mm_I st14 32) + (1 : Int32))) fun st15 =>
  some ((mm_I st15 32), st15)))))
/-! looked -/
def M_looked_b2F (fu : Nat) (K2 : Int32 → mm_S → Option (Int32 × mm_S)) (x1 : Int32) (st : mm_S) : Option (Int32 × mm_S) :=
  if (mm_I st 32) ≤ x1 then (
  some ((-5 : Int32), st))
  else (
  fc_gd (fc_ix x1 8) <|
  fc_gd (fc_ix (mm_G st 36 x1.toNatClampNeg) 6) <|
  fc_gd (fc_ix x1 8) <|
  if (mm_G st 6 (mm_G st 36 x1.toNatClampNeg).toNatClampNeg) = (mm_G st 37 x1.toNatClampNeg) then (
  fc_nm (x1 + (1 : Int32)) fun v6 =>
  K2 v6 st)
  else (
  some (x1, st)))
def M_looked_b2 (fu : Nat) (n : Nat) (x1 : Int32) (st : mm_S) : Option (Int32 × mm_S) :=
  fc_lp (fun (K : Int32 × mm_S → Option (Int32 × mm_S)) a => M_looked_b2F fu (fun x1 st => K (x1, st)) a.1 a.2) n (x1, st)
def M_looked (fu : Nat) (st : mm_S) : Option (Int32 × mm_S) :=
  M_looked_b2 fu fu (0 : Int32) st
/-! isTape -/
def M_isTape (fu : Nat) (x1 : Int32) (st : mm_S) : Option (Int32 × mm_S) :=
  fc_bn (M_in fu x1 (0 : Int32) (5 : Int32) st) fun r3 st1 =>
  fc_gd (fc_zb r3) <|
  some (r3, st1)
/-! judge -/
def M_judge_b34F (fu : Nat) (K34 : Int32 → Int32 → Int32 → mm_S → Option (Int32 × mm_S)) (x1 : Int32) (x2 : Int32) (x3 : Int32) (st : mm_S) : Option (Int32 × mm_S) :=
  if (mm_I st 0) ≤ x3 then (
  some ((-5 : Int32), st))
  else (
  fc_gd (fc_ix x1 6) <|
  if (mm_G st 59 x1.toNatClampNeg) < 0 then (
  some (((100 : Int32) + x3), st))
  else (
  if x2 < 0 then (
  some (((100 : Int32) + x3), st))
  else (
  fc_gd (fc_ix x1 6) <|
  if x2 ≤ (((mm_G st 60 x1.toNatClampNeg) - x3) - (1 : Int32)) then (
  fc_gd (fc_ix ((((60 : Int32) * x1) + x2) + x3) 360) <|
  fc_bn (M_worthOf fu x3 (mm_I st 3) (mm_I st 1) st) fun r18 st16 =>
  if (lg_cmp (mm_L st 61 ((((60 : Int32) * x1) + x2) + x3).toNatClampNeg) ((r18).toInt64)) = 0 then (
  fc_nm (x3 + (1 : Int32)) fun v20 =>
  K34 x1 x2 v20 st16)
  else (
  some (x3, st16)))
  else (
  some (((100 : Int32) + x3), st)))))
def M_judge_b34 (fu : Nat) (n : Nat) (x1 : Int32) (x2 : Int32) (x3 : Int32) (st : mm_S) : Option (Int32 × mm_S) :=
  fc_lp (fun (K : Int32 × Int32 × Int32 × mm_S → Option (Int32 × mm_S)) a => M_judge_b34F fu (fun x1 x2 x3 st => K (x1, x2, x3, st)) a.1 a.2.1 a.2.2.1 a.2.2.2) n (x1, x2, x3, st)
def M_judge_b32 (fu : Nat) (x1 : Int32) (x2 : Int32) (st : mm_S) : Option (Int32 × mm_S) :=
  M_judge_b34 fu fu x1 x2 (0 : Int32) st
def M_judge (fu : Nat) (x1 : Int32) (x2 : Int32) (st : mm_S) : Option (Int32 × mm_S) :=
  fc_bn (M_isTape fu x1 st) fun r3 st1 =>
  if r3 = 0 then (
  some ((-1 : Int32), st1))
  else (
  fc_gd (fc_ix x1 6) <|
  if (mm_G st1 59 x1.toNatClampNeg) < 0 then (
  M_judge_b32 fu x1 x2 st1)
  else (
  fc_gd (fc_ix x1 6) <|
  if (mm_G st1 59 x1.toNatClampNeg) = (2 : Int32) then (
  M_judge_b32 fu x1 x2 st1)
  else (
  some ((-12 : Int32), st1))))
/-! image -/
def M_image_b196F (fu : Nat) (K196 : Int32 → mm_S → Option (Int32 × mm_S)) (x1 : Int32) (st : mm_S) : Option (Int32 × mm_S) :=
  if (8 : Int32) ≤ x1 then (
  some ((mm_I st 0), st))
  else (
  fc_gd (fc_ix x1 8) <|
  fc_gd (fc_ix x1 8) <|
  fc_nm (mm_sG st 51 x1.toNatClampNeg (mm_G st 30 x1.toNatClampNeg)) fun st40 =>
  fc_gd (fc_ix x1 8) <|
  fc_gd (fc_ix x1 8) <|
  fc_nm (mm_sG st40 55 x1.toNatClampNeg (mm_G st40 36 x1.toNatClampNeg)) fun st43 =>
  fc_gd (fc_ix x1 8) <|
  fc_gd (fc_ix x1 8) <|
  fc_nm (mm_sG st43 56 x1.toNatClampNeg (mm_G st43 37 x1.toNatClampNeg)) fun st46 =>
  fc_nm (x1 + (1 : Int32)) fun v47 =>
  K196 v47 st46)
def M_image_b196 (fu : Nat) (n : Nat) (x1 : Int32) (st : mm_S) : Option (Int32 × mm_S) :=
  fc_lp (fun (K : Int32 × mm_S → Option (Int32 × mm_S)) a => M_image_b196F fu (fun x1 st => K (x1, st)) a.1 a.2) n (x1, st)
def M_image_b147F (fu : Nat) (K147 : Int32 → mm_S → Option (Int32 × mm_S)) (x1 : Int32) (st : mm_S) : Option (Int32 × mm_S) :=
  if (5 : Int32) ≤ x1 then (
  M_image_b196 fu fu (0 : Int32) st)
  else (
  fc_gd (fc_ix x1 5) <|
  fc_gd (fc_ix x1 5) <|
  fc_nm (mm_sG st 52 x1.toNatClampNeg (mm_G st 33 x1.toNatClampNeg)) fun st29 =>
  fc_gd (fc_ix x1 5) <|
  fc_gd (fc_ix x1 5) <|
  fc_nm (mm_sG st29 53 x1.toNatClampNeg (mm_G st29 34 x1.toNatClampNeg)) fun st32 =>
  fc_gd (fc_ix x1 5) <|
  fc_gd (fc_ix x1 5) <|
  fc_nm (mm_sG st32 54 x1.toNatClampNeg (mm_G st32 35 x1.toNatClampNeg)) fun st35 =>
  fc_nm (x1 + (1 : Int32)) fun v36 =>
  K147 v36 st35)
def M_image_b147 (fu : Nat) (n : Nat) (x1 : Int32) (st : mm_S) : Option (Int32 × mm_S) :=
  fc_lp (fun (K : Int32 × mm_S → Option (Int32 × mm_S)) a => M_image_b147F fu (fun x1 st => K (x1, st)) a.1 a.2) n (x1, st)
def M_image_b121F (fu : Nat) (K121 : Int32 → mm_S → Option (Int32 × mm_S)) (x1 : Int32) (st : mm_S) : Option (Int32 × mm_S) :=
  if (24 : Int32) ≤ x1 then (
  M_image_b147 fu fu (0 : Int32) st)
  else (
  fc_gd (fc_ix x1 24) <|
  fc_gd (fc_ix x1 24) <|
  fc_nm (mm_sG st 50 x1.toNatClampNeg (mm_G st 7 x1.toNatClampNeg)) fun st24 =>
  fc_nm (x1 + (1 : Int32)) fun v25 =>
  K121 v25 st24)
def M_image_b121 (fu : Nat) (n : Nat) (x1 : Int32) (st : mm_S) : Option (Int32 × mm_S) :=
  fc_lp (fun (K : Int32 × mm_S → Option (Int32 × mm_S)) a => M_image_b121F fu (fun x1 st => K (x1, st)) a.1 a.2) n (x1, st)
def M_image_b71F (fu : Nat) (K71 : Int32 → mm_S → Option (Int32 × mm_S)) (x1 : Int32) (st : mm_S) : Option (Int32 × mm_S) :=
  if (6 : Int32) ≤ x1 then (
  M_image_b121 fu fu (0 : Int32) st)
  else (
  fc_gd (fc_ix x1 6) <|
  fc_gd (fc_ix x1 6) <|
  fc_nm (mm_sG st 47 x1.toNatClampNeg (mm_G st 4 x1.toNatClampNeg)) fun st13 =>
  fc_gd (fc_ix x1 6) <|
  fc_gd (fc_ix x1 6) <|
  fc_nm (mm_sG st13 48 x1.toNatClampNeg (mm_G st13 5 x1.toNatClampNeg)) fun st16 =>
  fc_gd (fc_ix x1 6) <|
  fc_gd (fc_ix x1 6) <|
  fc_nm (mm_sG st16 49 x1.toNatClampNeg (mm_G st16 6 x1.toNatClampNeg)) fun st19 =>
  fc_nm (x1 + (1 : Int32)) fun v20 =>
  K71 v20 st19)
def M_image_b71 (fu : Nat) (n : Nat) (x1 : Int32) (st : mm_S) : Option (Int32 × mm_S) :=
  fc_lp (fun (K : Int32 × mm_S → Option (Int32 × mm_S)) a => M_image_b71F fu (fun x1 st => K (x1, st)) a.1 a.2) n (x1, st)
def M_image (fu : Nat) (st : mm_S) : Option (Int32 × mm_S) :=
  fc_nm (mm_sI st 38 (1 : Int32)) fun st1 =>
  fc_nm (mm_sI st1 39 (mm_I st1 9)) fun st2 =>
  fc_nm (mm_sI st2 40 (mm_I st2 0)) fun st3 =>
  fc_nm (mm_sI st3 41 (mm_I st3 1)) fun st4 =>
  fc_nm (mm_sI st4 42 (mm_I st4 2)) fun st5 =>
  fc_nm (mm_sI st5 43 (mm_I st5 3)) fun st6 =>
  fc_nm (mm_sI st6 44 (mm_I st6 29)) fun st7 =>
  fc_nm (mm_sI st7 45 (mm_I st7 31)) fun st8 =>
  fc_nm (mm_sI st8 46 (mm_I st8 32)) fun st9 =>
  M_image_b71 fu fu (0 : Int32) st9
/-! undo -/
def M_undo_b201F (fu : Nat) (K201 : Int32 → mm_S → Option (Int32 × mm_S)) (x1 : Int32) (st : mm_S) : Option (Int32 × mm_S) :=
  if (8 : Int32) ≤ x1 then (
  some ((mm_I st 0), st))
  else (
  fc_gd (fc_ix x1 8) <|
  fc_gd (fc_ix x1 8) <|
  fc_nm (mm_sG st 30 x1.toNatClampNeg (mm_G st 51 x1.toNatClampNeg)) fun st40 =>
  fc_gd (fc_ix x1 8) <|
  fc_gd (fc_ix x1 8) <|
  fc_nm (mm_sG st40 36 x1.toNatClampNeg (mm_G st40 55 x1.toNatClampNeg)) fun st43 =>
  fc_gd (fc_ix x1 8) <|
  fc_gd (fc_ix x1 8) <|
  fc_nm (mm_sG st43 37 x1.toNatClampNeg (mm_G st43 56 x1.toNatClampNeg)) fun st46 =>
  fc_nm (x1 + (1 : Int32)) fun v47 =>
  K201 v47 st46)
def M_undo_b201 (fu : Nat) (n : Nat) (x1 : Int32) (st : mm_S) : Option (Int32 × mm_S) :=
  fc_lp (fun (K : Int32 × mm_S → Option (Int32 × mm_S)) a => M_undo_b201F fu (fun x1 st => K (x1, st)) a.1 a.2) n (x1, st)
def M_undo_b152F (fu : Nat) (K152 : Int32 → mm_S → Option (Int32 × mm_S)) (x1 : Int32) (st : mm_S) : Option (Int32 × mm_S) :=
  if (5 : Int32) ≤ x1 then (
  M_undo_b201 fu fu (0 : Int32) st)
  else (
  fc_gd (fc_ix x1 5) <|
  fc_gd (fc_ix x1 5) <|
  fc_nm (mm_sG st 33 x1.toNatClampNeg (mm_G st 52 x1.toNatClampNeg)) fun st29 =>
  fc_gd (fc_ix x1 5) <|
  fc_gd (fc_ix x1 5) <|
  fc_nm (mm_sG st29 34 x1.toNatClampNeg (mm_G st29 53 x1.toNatClampNeg)) fun st32 =>
  fc_gd (fc_ix x1 5) <|
  fc_gd (fc_ix x1 5) <|
  fc_nm (mm_sG st32 35 x1.toNatClampNeg (mm_G st32 54 x1.toNatClampNeg)) fun st35 =>
  fc_nm (x1 + (1 : Int32)) fun v36 =>
  K152 v36 st35)
def M_undo_b152 (fu : Nat) (n : Nat) (x1 : Int32) (st : mm_S) : Option (Int32 × mm_S) :=
  fc_lp (fun (K : Int32 × mm_S → Option (Int32 × mm_S)) a => M_undo_b152F fu (fun x1 st => K (x1, st)) a.1 a.2) n (x1, st)
def M_undo_b126F (fu : Nat) (K126 : Int32 → mm_S → Option (Int32 × mm_S)) (x1 : Int32) (st : mm_S) : Option (Int32 × mm_S) :=
  if (24 : Int32) ≤ x1 then (
  M_undo_b152 fu fu (0 : Int32) st)
  else (
  fc_gd (fc_ix x1 24) <|
  fc_gd (fc_ix x1 24) <|
  fc_nm (mm_sG st 7 x1.toNatClampNeg (mm_G st 50 x1.toNatClampNeg)) fun st24 =>
  fc_nm (x1 + (1 : Int32)) fun v25 =>
  K126 v25 st24)
def M_undo_b126 (fu : Nat) (n : Nat) (x1 : Int32) (st : mm_S) : Option (Int32 × mm_S) :=
  fc_lp (fun (K : Int32 × mm_S → Option (Int32 × mm_S)) a => M_undo_b126F fu (fun x1 st => K (x1, st)) a.1 a.2) n (x1, st)
def M_undo_b76F (fu : Nat) (K76 : Int32 → mm_S → Option (Int32 × mm_S)) (x1 : Int32) (st : mm_S) : Option (Int32 × mm_S) :=
  if (6 : Int32) ≤ x1 then (
  M_undo_b126 fu fu (0 : Int32) st)
  else (
  fc_gd (fc_ix x1 6) <|
  fc_gd (fc_ix x1 6) <|
  fc_nm (mm_sG st 4 x1.toNatClampNeg (mm_G st 47 x1.toNatClampNeg)) fun st13 =>
  fc_gd (fc_ix x1 6) <|
  fc_gd (fc_ix x1 6) <|
  fc_nm (mm_sG st13 5 x1.toNatClampNeg (mm_G st13 48 x1.toNatClampNeg)) fun st16 =>
  fc_gd (fc_ix x1 6) <|
  fc_gd (fc_ix x1 6) <|
  fc_nm (mm_sG st16 6 x1.toNatClampNeg (mm_G st16 49 x1.toNatClampNeg)) fun st19 =>
  fc_nm (x1 + (1 : Int32)) fun v20 =>
  K76 v20 st19)
def M_undo_b76 (fu : Nat) (n : Nat) (x1 : Int32) (st : mm_S) : Option (Int32 × mm_S) :=
  fc_lp (fun (K : Int32 × mm_S → Option (Int32 × mm_S)) a => M_undo_b76F fu (fun x1 st => K (x1, st)) a.1 a.2) n (x1, st)
def M_undo (fu : Nat) (st : mm_S) : Option (Int32 × mm_S) :=
  if (mm_I st 38) = 0 then (
  some ((-3 : Int32), st))
  else (
  fc_nm (mm_sI st 9 (mm_I st 39)) fun st2 =>
  fc_nm (mm_sI st2 0 (mm_I st2 40)) fun st3 =>
  fc_nm (mm_sI st3 1 (mm_I st3 41)) fun st4 =>
  fc_nm (mm_sI st4 2 (mm_I st4 42)) fun st5 =>
  fc_nm (mm_sI st5 3 (mm_I st5 43)) fun st6 =>
  fc_nm (mm_sI st6 29 (mm_I st6 44)) fun st7 =>
  fc_nm (mm_sI st7 31 (mm_I st7 45)) fun st8 =>
  fc_nm (mm_sI st8 32 (mm_I st8 46)) fun st9 =>
  M_undo_b76 fu fu (0 : Int32) st9)
/-! body -/
def M_body_b19 (fu : Nat) (st : mm_S) : Option mm_S :=
  fc_nm (mm_sI st 57 ((mm_I st 57) + (1 : Int32))) fun st4 =>
  some st4
def M_body (fu : Nat) (x1 : Int32) (st : mm_S) : Option mm_S :=
  if (20 : Int32) ≤ (mm_I st 57) then (
  M_body_b19 fu st)
  else (
  fc_gd (fc_ix (mm_I st 57) 20) <|
  fc_nm (mm_sG st 58 (mm_I st 57).toNatClampNeg x1) fun st3 =>
  M_body_b19 fu st3)
/-! needDarkens -/
def M_needDarkens (fu : Nat) (x1 : Int32) (x2 : Int32) (st : mm_S) : Option (Int32 × mm_S) :=
  fc_bv (M_body fu (10 : Int32) st) fun st1 =>
  some ((x2 + x1), st1)
/-! darkensAct -/
def M_darkensAct_b40 (fu : Nat) (x1 : Int32) (x2 : Int32) (st : mm_S) : Option (Int32 × mm_S) :=
  fc_bv (M_body fu (30 : Int32) st) fun st19 =>
  fc_bn (M_needDarkens fu x1 (x2 * (3 : Int32)) st19) fun r23 st21 =>
  some (r23, st21)
def M_darkensAct_b89 (fu : Nat) (x1 : Int32) (x2 : Int32) (st : mm_S) : Option (Int32 × mm_S) :=
  fc_bn (M_needDarkens fu x1 x2 st) fun r26 st24 =>
  some (r26, st24)
def M_darkensAct (fu : Nat) (x1 : Int32) (x2 : Int32) (st : mm_S) : Option (Int32 × mm_S) :=
  fc_gd (fc_ix x1 6) <|
  fc_nm (mm_G st 4 x1.toNatClampNeg) fun v2 =>
  if v2 = (2 : Int32) then (
  M_darkensAct_b40 fu x1 x2 st)
  else (
  if v2 = (3 : Int32) then (
  M_darkensAct_b89 fu x1 x2 st)
  else (
  if v2 = (4 : Int32) then (
  fc_bv (M_body fu (50 : Int32) st) fun st6 =>
  fc_bn (M_needDarkens fu x1 x2 st6) fun r10 st8 =>
  some ((-r10), st8))
  else (
  if v2 = (5 : Int32) then (
  M_darkensAct_b40 fu x1 x2 st)
  else (
  if v2 = (6 : Int32) then (
  fc_bv (M_body fu (71 : Int32) st) fun st13 =>
  fc_bn (M_needDarkens fu x1 x2 st13) fun r17 st15 =>
  fc_gd (fc_ix x1 6) <|
  some ((r17 ^^^ (mm_G st15 5 x1.toNatClampNeg)), st15))
  else (
  M_darkensAct_b89 fu x1 x2 st)))))
/-! needPleads -/
def M_needPleads (fu : Nat) (x1 : Int32) (x2 : Int32) (st : mm_S) : Option (Int32 × mm_S) :=
  fc_bv (M_body fu (11 : Int32) st) fun st1 =>
  fc_bn (M_darkensAct fu x1 x2 st1) fun r5 st3 =>
  fc_gd (fc_ix x1 6) <|
  some ((r5 - (mm_G st3 5 x1.toNatClampNeg)), st3)
/-! siegePleads -/
def M_siegePleads (fu : Nat) (x1 : Int32) (x2 : Int32) (st : mm_S) : Option (Int32 × mm_S) :=
  fc_bv (M_body fu (20 : Int32) st) fun st1 =>
  fc_bn (M_needPleads fu x1 x2 st1) fun r5 st3 =>
  some ((r5 ^^^ (6 : Int32)), st3)
/-! pleadsAct -/
def M_pleadsAct (fu : Nat) (x1 : Int32) (x2 : Int32) (st : mm_S) : Option (Int32 × mm_S) :=
  fc_gd (fc_ix x1 6) <|
  fc_nm (mm_G st 4 x1.toNatClampNeg) fun v2 =>
  if v2 = (1 : Int32) then (
  fc_bn (M_siegePleads fu x1 x2 st) fun r6 st4 =>
  some (r6, st4))
  else (
  if v2 = (4 : Int32) then (
  fc_bv (M_body fu (51 : Int32) st) fun st8 =>
  fc_bn (M_siegePleads fu x1 (x2 + (1 : Int32)) st8) fun r12 st10 =>
  some (r12, st10))
  else (
  if v2 = (6 : Int32) then (
  fc_bv (M_body fu (70 : Int32) st) fun st14 =>
  fc_bn (M_needPleads fu x1 x2 st14) fun r18 st16 =>
  fc_bn (M_needDarkens fu x1 (2 : Int32) st16) fun r21 st19 =>
  some ((r18 + r21), st19))
  else (
  fc_bn (M_needPleads fu x1 x2 st) fun r24 st22 =>
  some (r24, st22))))
/-! needTells -/
def M_needTells (fu : Nat) (x1 : Int32) (x2 : Int32) (st : mm_S) : Option (Int32 × mm_S) :=
  fc_bv (M_body fu (12 : Int32) st) fun st1 =>
  fc_bn (M_pleadsAct fu x1 x2 st1) fun r5 st3 =>
  some ((r5 * (2 : Int32)), st3)
/-! tellsAct -/
def M_tellsAct_b36 (fu : Nat) (x1 : Int32) (x2 : Int32) (st : mm_S) : Option (Int32 × mm_S) :=
  fc_bv (M_body fu (40 : Int32) st) fun st12 =>
  fc_bn (M_needTells fu x1 x2 st12) fun r16 st14 =>
  fc_bn (M_pleadsAct fu x1 (1 : Int32) st14) fun r19 st17 =>
  some ((r16 + r19), st17)
def M_tellsAct_b73 (fu : Nat) (x1 : Int32) (x2 : Int32) (st : mm_S) : Option (Int32 × mm_S) :=
  fc_bn (M_needTells fu x1 x2 st) fun r22 st20 =>
  some (r22, st20)
def M_tellsAct (fu : Nat) (x1 : Int32) (x2 : Int32) (st : mm_S) : Option (Int32 × mm_S) :=
  fc_gd (fc_ix x1 6) <|
  fc_nm (mm_G st 4 x1.toNatClampNeg) fun v2 =>
  if v2 = (3 : Int32) then (
  M_tellsAct_b36 fu x1 x2 st)
  else (
  if v2 = (4 : Int32) then (
  M_tellsAct_b73 fu x1 x2 st)
  else (
  if v2 = (5 : Int32) then (
  fc_bv (M_body fu (60 : Int32) st) fun st6 =>
  fc_bn (M_needTells fu x1 (x2 - x1) st6) fun r10 st8 =>
  some (r10, st8))
  else (
  if v2 = (6 : Int32) then (
  M_tellsAct_b36 fu x1 x2 st)
  else (
  M_tellsAct_b73 fu x1 x2 st))))
/-! act -/
def M_act (fu : Nat) (x1 : Int32) (x2 : Int32) (x3 : Int32) (st : mm_S) : Option (Int32 × mm_S) :=
  fc_nm (mm_sI st 57 (0 : Int32)) fun st1 =>
  fc_bn (M_isNeed fu x1 st1) fun r4 st2 =>
  if r4 = 0 then (
  some ((0 : Int32), st2))
  else (
  fc_bn (M_in fu x2 (0 : Int32) (2 : Int32) st2) fun r8 st6 =>
  if r8 = 0 then (
  some ((0 : Int32), st6))
  else (
  if x2 = 0 then (
  fc_bn (M_darkensAct fu x1 x3 st6) fun r20 st18 =>
  some (r20, st18))
  else (
  if x2 = (1 : Int32) then (
  fc_bn (M_pleadsAct fu x1 x3 st6) fun r17 st15 =>
  some (r17, st15))
  else (
  fc_bn (M_tellsAct fu x1 x3 st6) fun r14 st12 =>
  some (r14, st12)))))
/-! trace -/
def M_trace (fu : Nat) (x1 : Int32) (st : mm_S) : Option (Int32 × mm_S) :=
  fc_bn (M_in fu x1 (0 : Int32) (19 : Int32) st) fun r3 st1 =>
  if r3 = 0 then (
  some ((-1 : Int32), st1))
  else (
  if (mm_I st1 57) ≤ x1 then (
  some ((-1 : Int32), st1))
  else (
  fc_gd (fc_ix x1 20) <|
  some ((mm_G st1 58 x1.toNatClampNeg), st1)))
/-! taken -/
def M_taken_b61 (fu : Nat) (x2 : Int32) (x3 : Int32) (st : mm_S) : Option (Int32 × mm_S) :=
  if x2 = (3 : Int32) then (
  if x3 = (6 : Int32) then (
  some (x3, st))
  else (
  some ((-12 : Int32), st)))
  else (
  some ((-12 : Int32), st))
def M_taken_b51 (fu : Nat) (x2 : Int32) (x3 : Int32) (st : mm_S) : Option (Int32 × mm_S) :=
  if x2 = (2 : Int32) then (
  if x3 = (5 : Int32) then (
  some (x3, st))
  else (
  M_taken_b61 fu x2 x3 st))
  else (
  M_taken_b61 fu x2 x3 st)
def M_taken (fu : Nat) (x1 : Int32) (x2 : Int32) (st : mm_S) : Option (Int32 × mm_S) :=
  fc_bn (M_in fu x2 (0 : Int32) (6 : Int32) st) fun r3 st1 =>
  if r3 = 0 then (
  some ((-2 : Int32), st1))
  else (
  fc_bn (M_isNeed fu x1 st1) fun r7 st5 =>
  if r7 = 0 then (
  some ((-11 : Int32), st5))
  else (
  fc_gd (fc_ix x1 6) <|
  fc_nm (mm_G st5 4 x1.toNatClampNeg) fun v10 =>
  if x2 = 0 then (
  some (v10, st5))
  else (
  if v10 = x2 then (
  some (v10, st5))
  else (
  if x2 = (1 : Int32) then (
  if v10 = (4 : Int32) then (
  some (v10, st5))
  else (
  M_taken_b51 fu x2 v10 st5))
  else (
  M_taken_b51 fu x2 v10 st5)))))
/-! count -/
def M_count (fu : Nat) (x1 : Int32) (st : mm_S) : Option (Int32 × mm_S) :=
  if x1 = (0 : Int32) then (
  some ((mm_I st 0), st))
  else (
  if x1 = (1 : Int32) then (
  some ((mm_I st 8), st))
  else (
  if x1 = (2 : Int32) then (
  some ((mm_I st 29), st))
  else (
  if x1 = (3 : Int32) then (
  some ((mm_I st 31), st))
  else (
  if x1 = (4 : Int32) then (
  some ((mm_I st 32), st))
  else (
  if x1 = (5 : Int32) then (
  some ((mm_I st 10), st))
  else (
  if x1 = (6 : Int32) then (
  some ((mm_I st 57), st))
  else (
  some ((-2 : Int32), st))))))))
/-! tape -/
def M_tape_b69F (fu : Nat) (K69 : Int32 → Int32 → mm_S → Option (Int32 × mm_S)) (x1 : Int32) (x4 : Int32) (st : mm_S) : Option (Int32 × mm_S) :=
  if (60 : Int32) ≤ x4 then (
  some ((1 : Int32), st))
  else (
  fc_gd (fc_ix (((60 : Int32) * x1) + x4) 360) <|
  fc_nm (mm_sL st 61 (((60 : Int32) * x1) + x4).toNatClampNeg (0 : Int64)) fun st20 =>
  fc_nm (x4 + (1 : Int32)) fun v21 =>
  K69 x1 v21 st20)
def M_tape_b69 (fu : Nat) (n : Nat) (x1 : Int32) (x4 : Int32) (st : mm_S) : Option (Int32 × mm_S) :=
  fc_lp (fun (K : Int32 × Int32 × mm_S → Option (Int32 × mm_S)) a => M_tape_b69F fu (fun x1 x4 st => K (x1, x4, st)) a.1 a.2.1 a.2.2) n (x1, x4, st)
def M_tape_b65 (fu : Nat) (x1 : Int32) (s0 : Int32) (s1 : Int32) (st : mm_S) : Option (Int32 × mm_S) :=
  fc_gd (fc_ix s1 6) <|
  fc_nm (mm_sG st 60 s1.toNatClampNeg s0) fun st17 =>
  M_tape_b69 fu fu x1 (0 : Int32) st17
def M_tape_b44 (fu : Nat) (x1 : Int32) (x2 : Int32) (x3 : Int32) (st : mm_S) : Option (Int32 × mm_S) :=
  fc_gd (fc_ix x1 6) <|
  fc_nm (mm_sG st 59 x1.toNatClampNeg x2) fun st14 =>
  if 0 ≤ x2 then (
  M_tape_b65 fu x1 x3 x1 st14)
  else (
  M_tape_b65 fu x1 (0 : Int32) x1 st14)
def M_tape_b33 (fu : Nat) (x1 : Int32) (x2 : Int32) (x3 : Int32) (st : mm_S) : Option (Int32 × mm_S) :=
  if x2 < 0 then (
  M_tape_b44 fu x1 x2 x3 st)
  else (
  if 0 ≤ x3 then (
  M_tape_b44 fu x1 x2 x3 st)
  else (
  some ((-14 : Int32), st)))
def M_tape (fu : Nat) (x1 : Int32) (x2 : Int32) (x3 : Int32) (st : mm_S) : Option (Int32 × mm_S) :=
  fc_bn (M_isTape fu x1 st) fun r3 st1 =>
  if r3 = 0 then (
  some ((-1 : Int32), st1))
  else (
  fc_bn (M_in fu x2 (-1 : Int32) (4 : Int32) st1) fun r7 st5 =>
  if r7 = 0 then (
  some ((-2 : Int32), st5))
  else (
  if x2 < 0 then (
  M_tape_b33 fu x1 x2 x3 st5)
  else (
  if x3 ≤ (60 : Int32) then (
  M_tape_b33 fu x1 x2 x3 st5)
  else (
  some ((-2 : Int32), st5)))))
/-! narrow -/
def M_narrow (fu : Nat) (x1 : Int32) (x2 : Int64) (st : mm_S) : Option (Int64 × mm_S) :=
  if x1 = 0 then (
  some (((((((x2).toInt32)).toInt8.toInt32)).toInt64), st))
  else (
  if x1 = (1 : Int32) then (
  some (((((((x2).toInt32)).toInt16.toInt32)).toInt64), st))
  else (
  if x1 = (2 : Int32) then (
  some (((((x2).toInt32)).toInt64), st))
  else (
  if x1 = (4 : Int32) then (
  if (lg_cmp x2 (0 : Int64)) = 0 then (
  some ((0 : Int64), st))
  else (
  some ((1 : Int64), st)))
  else (
  some (x2, st)))))
/-! item -/
def M_item (fu : Nat) (x1 : Int32) (x2 : Int32) (x3 : Int64) (st : mm_S) : Option (Int32 × mm_S) :=
  fc_bn (M_isTape fu x1 st) fun r3 st1 =>
  if r3 = 0 then (
  some ((-1 : Int32), st1))
  else (
  fc_gd (fc_ix x1 6) <|
  if 0 ≤ (mm_G st1 59 x1.toNatClampNeg) then (
  fc_gd (fc_ix x1 6) <|
  fc_bn (M_in fu x2 (0 : Int32) ((mm_G st1 60 x1.toNatClampNeg) - (1 : Int32)) st1) fun r10 st8 =>
  if r10 = 0 then (
  some ((-13 : Int32), st8))
  else (
  fc_gd (fc_ix x1 6) <|
  fc_bn (M_narrow fu (mm_G st8 59 x1.toNatClampNeg) x3 st8) fun r15 st13 =>
  fc_gd (fc_ix (((60 : Int32) * x1) + x2) 360) <|
  fc_nm (mm_sL st13 61 (((60 : Int32) * x1) + x2).toNatClampNeg r15) fun st17 =>
  some ((1 : Int32), st17)))
  else (
  some ((-11 : Int32), st1)))
/-! read -/
def M_read (fu : Nat) (x1 : Int32) (x2 : Int32) (st : mm_S) : Option (Int64 × mm_S) :=
  fc_bn (M_isTape fu x1 st) fun r3 st1 =>
  if r3 = 0 then (
  some ((-9223372036854775808 : Int64), st1))
  else (
  fc_gd (fc_ix x1 6) <|
  if (mm_G st1 59 x1.toNatClampNeg) < 0 then (
  some ((-9223372036854775808 : Int64), st1))
  else (
  fc_gd (fc_ix x1 6) <|
  fc_bn (M_in fu x2 (0 : Int32) ((mm_G st1 60 x1.toNatClampNeg) - (1 : Int32)) st1) fun r10 st8 =>
  if r10 = 0 then (
  some ((-9223372036854775808 : Int64), st8))
  else (
  fc_gd (fc_ix (((60 : Int32) * x1) + x2) 360) <|
  some ((mm_L st8 61 (((60 : Int32) * x1) + x2).toNatClampNeg), st8))))
/-! shift -/
def M_shift_b141F (fu : Nat) (K141 : Int32 → Int32 → Int32 → Int32 → mm_S → Option (Int32 × mm_S)) (x3 : Int32) (x4 : Int32) (x5 : Int32) (x6 : Int32) (st : mm_S) : Option (Int32 × mm_S) :=
  if x5 ≤ x6 then (
  some (x5, st))
  else (
  fc_gd (fc_ix x6 60) <|
  fc_gd (fc_ix ((((60 : Int32) * x3) + x4) + x6) 360) <|
  fc_nm (mm_sL st 61 ((((60 : Int32) * x3) + x4) + x6).toNatClampNeg (mm_L st 62 x6.toNatClampNeg)) fun st31 =>
  fc_nm (x6 + (1 : Int32)) fun v32 =>
  K141 x3 x4 x5 v32 st31)
def M_shift_b141 (fu : Nat) (n : Nat) (x3 : Int32) (x4 : Int32) (x5 : Int32) (x6 : Int32) (st : mm_S) : Option (Int32 × mm_S) :=
  fc_lp (fun (K : Int32 × Int32 × Int32 × Int32 × mm_S → Option (Int32 × mm_S)) a => M_shift_b141F fu (fun x3 x4 x5 x6 st => K (x3, x4, x5, x6, st)) a.1 a.2.1 a.2.2.1 a.2.2.2.1 a.2.2.2.2) n (x3, x4, x5, x6, st)
def M_shift_b104F (fu : Nat) (K104 : Int32 → Int32 → Int32 → Int32 → Int32 → Int32 → mm_S → Option (Int32 × mm_S)) (x1 : Int32) (x2 : Int32) (x3 : Int32) (x4 : Int32) (x5 : Int32) (x6 : Int32) (st : mm_S) : Option (Int32 × mm_S) :=
  if x5 ≤ x6 then (
  M_shift_b141 fu fu x3 x4 x5 (0 : Int32) st)
  else (
  fc_gd (fc_ix ((((60 : Int32) * x1) + x2) + x6) 360) <|
  fc_gd (fc_ix x6 60) <|
  fc_nm (mm_sL st 62 x6.toNatClampNeg (mm_L st 61 ((((60 : Int32) * x1) + x2) + x6).toNatClampNeg)) fun st26 =>
  fc_nm (x6 + (1 : Int32)) fun v27 =>
  K104 x1 x2 x3 x4 x5 v27 st26)
def M_shift_b104 (fu : Nat) (n : Nat) (x1 : Int32) (x2 : Int32) (x3 : Int32) (x4 : Int32) (x5 : Int32) (x6 : Int32) (st : mm_S) : Option (Int32 × mm_S) :=
  fc_lp (fun (K : Int32 × Int32 × Int32 × Int32 × Int32 × Int32 × mm_S → Option (Int32 × mm_S)) a => M_shift_b104F fu (fun x1 x2 x3 x4 x5 x6 st => K (x1, x2, x3, x4, x5, x6, st)) a.1 a.2.1 a.2.2.1 a.2.2.2.1 a.2.2.2.2.1 a.2.2.2.2.2.1 a.2.2.2.2.2.2) n (x1, x2, x3, x4, x5, x6, st)
def M_shift (fu : Nat) (x1 : Int32) (x2 : Int32) (x3 : Int32) (x4 : Int32) (x5 : Int32) (st : mm_S) : Option (Int32 × mm_S) :=
  fc_bn (M_isTape fu x1 st) fun r3 st1 =>
  if r3 = 0 then (
  some ((-1 : Int32), st1))
  else (
  fc_bn (M_isTape fu x3 st1) fun r7 st5 =>
  if r7 = 0 then (
  some ((-1 : Int32), st5))
  else (
  fc_gd (fc_ix x1 6) <|
  if (mm_G st5 59 x1.toNatClampNeg) < 0 then (
  some ((-11 : Int32), st5))
  else (
  fc_gd (fc_ix x3 6) <|
  if 0 ≤ (mm_G st5 59 x3.toNatClampNeg) then (
  fc_gd (fc_ix x1 6) <|
  fc_gd (fc_ix x3 6) <|
  if (mm_G st5 59 x1.toNatClampNeg) = (mm_G st5 59 x3.toNatClampNeg) then (
  if x5 < 0 then (
  some ((-13 : Int32), st5))
  else (
  if x2 < 0 then (
  some ((-13 : Int32), st5))
  else (
  if x4 < 0 then (
  some ((-13 : Int32), st5))
  else (
  fc_gd (fc_ix x1 6) <|
  if ((mm_G st5 60 x1.toNatClampNeg) - x5) < x2 then (
  some ((-13 : Int32), st5))
  else (
  fc_gd (fc_ix x3 6) <|
  if x4 ≤ ((mm_G st5 60 x3.toNatClampNeg) - x5) then (
  M_shift_b104 fu fu x1 x2 x3 x4 x5 (0 : Int32) st5)
  else (
  some ((-13 : Int32), st5)))))))
  else (
  some ((-12 : Int32), st5)))
  else (
  some ((-11 : Int32), st5)))))
end
section
/-! in -/
def tb_in : List (Nat × Instr × Nat) := [(0, .iload_n 1, 1), (1, .iload_n 2, 1), (2, .if_icmp .lt 12, 3), (5, .iload_n 1, 1), (6, .iload_n 3, 1), (7, .if_icmp .gt 7, 3), (10, .iconst 1, 1), (11, .goto 4, 3), (14, .iconst 0, 1), (15, .ireturn, 1)]
theorem td_in : tb_in.all (fun q => decide (decode cX12_in q.1 = .ok (q.2.1, q.2.2))) = true := by decide +kernel
theorem hd_in : yX12_in.cls = RX12 ∧ yX12_in.cls ≠ "java/lang/invoke/MethodHandle" ∧ yX12_in.cls ≠ "java/lang/invoke/VarHandle" ∧ (parseMethodDescriptor yX12_in.desc).map (fun d => d.parameters.length) = some 3 := by decide +kernel
theorem w_in {p : Program} {l : Launch} {e : Env} {s : State} {m : MethodId} {args : Array Value} {below : List Frame} {meth : Method} {c : Code} {D : va_G} {o : Nat} {ad : Nat → Nat} {cs : ClassId × ClassId × ClassId} {r : Int32} {st' : mm_S} (C : mm_C p s m args meth c cX12_in 4 (some .boolean) D cs) (fu : Nat) (x1 : Int32) (x2 : Int32) (x3 : Int32) (st : mm_S) (hf : M_in fu x1 x2 x3 st = some (r, st')) {H : Heap} {locs : List Loc} {ls : Array Slot} (hl : lv_has ls 4 [(0, .ref o), (1, .int x1), (2, .int x2), (3, .int x3)]) (hM : mm_H D o ad cs s.heap st H locs) : W p l e (mm_R 0 0) s m args below meth c H locs 0 0 (MQ below (mm_Qi D o ad cs r st') args s 0 0 (mm_A o ad)) (F0 m 0 ls []) := by
  unfold M_in at hf
  refine lv_iload_n C.1 C.2.1 (dd_at td_in 0 rfl) rfl (lv_at hl 1 rfl) ?_
  refine lv_iload_n C.1 C.2.1 (dd_at td_in 1 rfl) rfl (lv_at hl 2 rfl) ?_
  refine lv_icmp_lt (tgt := 14) C.1 C.2.1 (dd_at td_in 2 rfl) (by decide) (fun c1 => ?_) (fun c1 => ?_)
  · replace hf := fc_of_t hf c1
    refine lv_iconst (v := (0 : Int32)) C.1 C.2.1 (dd_at td_in 8 rfl) (by decide) ?_
    exact mm_rz C hM (dd_at td_in 9 rfl) rfl hf
  · replace hf := fc_of_f hf c1
    refine lv_iload_n C.1 C.2.1 (dd_at td_in 3 rfl) rfl (lv_at hl 1 rfl) ?_
    refine lv_iload_n C.1 C.2.1 (dd_at td_in 4 rfl) rfl (lv_at hl 3 rfl) ?_
    refine lv_icmp_gt (tgt := 14) C.1 C.2.1 (dd_at td_in 5 rfl) (by decide) (fun c2 => ?_) (fun c2 => ?_)
    · replace hf := fc_of_t hf c2
      refine lv_iconst (v := (0 : Int32)) C.1 C.2.1 (dd_at td_in 8 rfl) (by decide) ?_
      exact mm_rz C hM (dd_at td_in 9 rfl) rfl hf
    · replace hf := fc_of_f hf c2
      refine lv_iconst (v := (1 : Int32)) C.1 C.2.1 (dd_at td_in 6 rfl) (by decide) ?_
      refine lv_goto (tgt := 15) C.1 C.2.1 (dd_at td_in 7 rfl) (by decide) ?_
      exact mm_rz C hM (dd_at td_in 9 rfl) rfl hf
theorem c_in (l : Launch) (D : va_G) (o : Nat) (ad : Nat → Nat) (cs : ClassId × ClassId × ClassId) (fu : Nat) (x1 : Int32) (x2 : Int32) (x3 : Int32) (st : mm_S) : mm_Mi l D o ad cs yX12_in cX12_in 4 (some .boolean) 0 0 [.int x1, .int x2, .int x3] st (M_in fu x1 x2 x3 st) := by
  intro r st' hf
  refine mm_enter (cc := cX12_in) (nL := 4) (ret := some .boolean) (by decide) rfl (Nat.le_of_ble_eq_true rfl) ?_
  intro p e s m args below meth c ls C hl hM
  exact w_in C fu x1 x2 x3 st hf hl hM

/-! has -/
def tb_has : List (Nat × Instr × Nat) := [(0, .iload_n 1, 1), (1, .iload_n 2, 1), (2, .ishr, 1), (3, .iconst 1, 1), (4, .iand, 1), (5, .iconst 1, 1), (6, .if_icmp .ne 7, 3), (9, .iconst 1, 1), (10, .goto 4, 3), (13, .iconst 0, 1), (14, .ireturn, 1)]
theorem td_has : tb_has.all (fun q => decide (decode cX12_has q.1 = .ok (q.2.1, q.2.2))) = true := by decide +kernel
theorem hd_has : yX12_has.cls = RX12 ∧ yX12_has.cls ≠ "java/lang/invoke/MethodHandle" ∧ yX12_has.cls ≠ "java/lang/invoke/VarHandle" ∧ (parseMethodDescriptor yX12_has.desc).map (fun d => d.parameters.length) = some 2 := by decide +kernel
theorem w_has {p : Program} {l : Launch} {e : Env} {s : State} {m : MethodId} {args : Array Value} {below : List Frame} {meth : Method} {c : Code} {D : va_G} {o : Nat} {ad : Nat → Nat} {cs : ClassId × ClassId × ClassId} {r : Int32} {st' : mm_S} (C : mm_C p s m args meth c cX12_has 3 (some .boolean) D cs) (fu : Nat) (x1 : Int32) (x2 : Int32) (st : mm_S) (hf : M_has fu x1 x2 st = some (r, st')) {H : Heap} {locs : List Loc} {ls : Array Slot} (hl : lv_has ls 3 [(0, .ref o), (1, .int x1), (2, .int x2)]) (hM : mm_H D o ad cs s.heap st H locs) : W p l e (mm_R 0 0) s m args below meth c H locs 0 0 (MQ below (mm_Qi D o ad cs r st') args s 0 0 (mm_A o ad)) (F0 m 0 ls []) := by
  unfold M_has at hf
  refine lv_iload_n C.1 C.2.1 (dd_at td_has 0 rfl) rfl (lv_at hl 1 rfl) ?_
  refine lv_iload_n C.1 C.2.1 (dd_at td_has 1 rfl) rfl (lv_at hl 2 rfl) ?_
  refine lv_ishr C.1 C.2.1 (dd_at td_has 2 rfl) ?_
  refine lv_iconst (v := (1 : Int32)) C.1 C.2.1 (dd_at td_has 3 rfl) (by decide) ?_
  refine lv_iand C.1 C.2.1 (dd_at td_has 4 rfl) ?_
  refine lv_iconst (v := (1 : Int32)) C.1 C.2.1 (dd_at td_has 5 rfl) (by decide) ?_
  refine lv_icmp_ne (tgt := 13) C.1 C.2.1 (dd_at td_has 6 rfl) (by decide) (fun c1 => ?_) (fun c1 => ?_)
  · replace hf := fc_of_f hf c1
    refine lv_iconst (v := (0 : Int32)) C.1 C.2.1 (dd_at td_has 9 rfl) (by decide) ?_
    exact mm_rz C hM (dd_at td_has 10 rfl) rfl hf
  · replace hf := fc_of_t hf c1
    refine lv_iconst (v := (1 : Int32)) C.1 C.2.1 (dd_at td_has 7 rfl) (by decide) ?_
    refine lv_goto (tgt := 14) C.1 C.2.1 (dd_at td_has 8 rfl) (by decide) ?_
    exact mm_rz C hM (dd_at td_has 10 rfl) rfl hf
theorem c_has (l : Launch) (D : va_G) (o : Nat) (ad : Nat → Nat) (cs : ClassId × ClassId × ClassId) (fu : Nat) (x1 : Int32) (x2 : Int32) (st : mm_S) : mm_Mi l D o ad cs yX12_has cX12_has 3 (some .boolean) 0 0 [.int x1, .int x2] st (M_has fu x1 x2 st) := by
  intro r st' hf
  refine mm_enter (cc := cX12_has) (nL := 3) (ret := some .boolean) (by decide) rfl (Nat.le_of_ble_eq_true rfl) ?_
  intro p e s m args below meth c ls C hl hM
  exact w_has C fu x1 x2 st hf hl hM

/-! bits -/
def tb_bits : List (Nat × Instr × Nat) := [(0, .iconst 0, 1), (1, .istore_n 2, 1), (2, .iconst 0, 1), (3, .istore_n 3, 1), (4, .iload_n 3, 1), (5, .bipush 8, 2), (7, .if_icmp .ge 26, 3), (10, .iload_n 2, 1), (11, .aload_n 0, 1), (12, .iload_n 1, 1), (13, .iload_n 3, 1), (14, .invokevirtual 203, 3), (17, .ifCond .eq 7, 3), (20, .iconst 1, 1), (21, .goto 4, 3), (24, .iconst 0, 1), (25, .iadd, 1), (26, .istore_n 2, 1), (27, .iinc 3 1, 3), (30, .goto (-26), 3), (33, .iload_n 2, 1), (34, .ireturn, 1)]
theorem td_bits : tb_bits.all (fun q => decide (decode cX12_bits q.1 = .ok (q.2.1, q.2.2))) = true := by decide +kernel
theorem hd_bits : yX12_bits.cls = RX12 ∧ yX12_bits.cls ≠ "java/lang/invoke/MethodHandle" ∧ yX12_bits.cls ≠ "java/lang/invoke/VarHandle" ∧ (parseMethodDescriptor yX12_bits.desc).map (fun d => d.parameters.length) = some 1 := by decide +kernel
theorem w_bits_b25 {p : Program} {l : Launch} {e : Env} {s : State} {m : MethodId} {args : Array Value} {below : List Frame} {meth : Method} {c : Code} {D : va_G} {o : Nat} {ad : Nat → Nat} {cs : ClassId × ClassId × ClassId} {r : Int32} {st' : mm_S} (C : mm_C p s m args meth c cX12_bits 4 (some .int) D cs) (fu : Nat) (K4 : Int32 → Int32 → Int32 → mm_S → Option (Int32 × mm_S)) (hK4 : ∀ (x1 : Int32) (x2 : Int32) (x3 : Int32) (st : mm_S) (H : Heap) (locs : List Loc) (ls : Array Slot), K4 x1 x2 x3 st = some (r, st') → lv_has ls 4 [(0, .ref o), (1, .int x1), (2, .int x2), (3, .int x3)] → mm_H D o ad cs s.heap st H locs → W p l e (mm_R 1 22) s m args below meth c H locs 0 0 (MQ below (mm_Qi D o ad cs r st') args s 0 0 (mm_A o ad)) (F0 m 4 ls [])) (x1 : Int32) (x3 : Int32) (s0 : Int32) (s1 : Int32) (st : mm_S) (hf : M_bits_b25 fu K4 x1 x3 s0 s1 st = some (r, st')) {H : Heap} {locs : List Loc} {ls : Array Slot} (hl : lv_has ls 4 [(0, .ref o), (1, .int x1), (3, .int x3)]) (hM : mm_H D o ad cs s.heap st H locs) : W p l e (mm_R 1 22) s m args below meth c H locs 0 0 (MQ below (mm_Qi D o ad cs r st') args s 0 0 (mm_A o ad)) (F0 m 25 ls [.int s0, .int s1]) := by
  unfold M_bits_b25 at hf
  refine lv_iadd C.1 C.2.1 (dd_at td_bits 16 rfl) ?_
  refine lv_topi (fun v6 ev6 => ?_)
  replace hf := fc_of_nm hf v6 ev6
  refine lv_istore_n (lv' := [(2, .int v6), (0, .ref o), (1, .int x1), (3, .int x3)]) C.1 C.2.1 (dd_at td_bits 17 rfl) rfl hl (by decide) rfl (fun ls hl => ?_)
  obtain ⟨v7, ev7⟩ : ∃ y : Int32, y = x3 + (1 : Int32) := ⟨_, rfl⟩
  replace hf := fc_of_nm hf v7 ev7
  refine lv_iinc (v := v7) (lv' := [(3, .int v7), (2, .int v6), (0, .ref o), (1, .int x1)]) C.1 C.2.1 (dd_at td_bits 18 rfl) hl (k := 3) rfl (by rw [ev7]; rfl) (by decide) rfl (fun ls hl => ?_)
  refine lv_goto (tgt := 4) C.1 C.2.1 (dd_at td_bits 19 rfl) (by decide) ?_
  exact hK4 x1 v6 v7 st _ _ _ hf (lv_sub hl [2, 3, 1, 0] rfl) hM
theorem w_bits_b4F {p : Program} {l : Launch} {e : Env} {s : State} {m : MethodId} {args : Array Value} {below : List Frame} {meth : Method} {c : Code} {D : va_G} {o : Nat} {ad : Nat → Nat} {cs : ClassId × ClassId × ClassId} {r : Int32} {st' : mm_S} (C : mm_C p s m args meth c cX12_bits 4 (some .int) D cs) (fu : Nat) (K4 : Int32 → Int32 → Int32 → mm_S → Option (Int32 × mm_S)) (hK4 : ∀ (x1 : Int32) (x2 : Int32) (x3 : Int32) (st : mm_S) (H : Heap) (locs : List Loc) (ls : Array Slot), K4 x1 x2 x3 st = some (r, st') → lv_has ls 4 [(0, .ref o), (1, .int x1), (2, .int x2), (3, .int x3)] → mm_H D o ad cs s.heap st H locs → W p l e (mm_R 1 22) s m args below meth c H locs 0 0 (MQ below (mm_Qi D o ad cs r st') args s 0 0 (mm_A o ad)) (F0 m 4 ls [])) (x1 : Int32) (x2 : Int32) (x3 : Int32) (st : mm_S) (hf : M_bits_b4F fu K4 x1 x2 x3 st = some (r, st')) {H : Heap} {locs : List Loc} {ls : Array Slot} (hl : lv_has ls 4 [(0, .ref o), (1, .int x1), (2, .int x2), (3, .int x3)]) (hM : mm_H D o ad cs s.heap st H locs) : W p l e (mm_R 1 22) s m args below meth c H locs 0 0 (MQ below (mm_Qi D o ad cs r st') args s 0 0 (mm_A o ad)) (F0 m 4 ls []) := by
  unfold M_bits_b4F at hf
  refine lv_iload_n C.1 C.2.1 (dd_at td_bits 4 rfl) rfl (lv_at hl 3 rfl) ?_
  refine lv_bipush (v := (8 : Int32)) C.1 C.2.1 (dd_at td_bits 5 rfl) (by decide) ?_
  refine lv_icmp_ge (tgt := 33) C.1 C.2.1 (dd_at td_bits 6 rfl) (by decide) (fun c1 => ?_) (fun c1 => ?_)
  · replace hf := fc_of_t hf c1
    refine lv_iload_n C.1 C.2.1 (dd_at td_bits 20 rfl) rfl (lv_at hl 2 rfl) ?_
    exact mm_ri C hM (dd_at td_bits 21 rfl) hf
  · replace hf := fc_of_f hf c1
    refine lv_iload_n C.1 C.2.1 (dd_at td_bits 7 rfl) rfl (lv_at hl 2 rfl) ?_
    refine lv_aload_n C.1 C.2.1 (dd_at td_bits 8 rfl) rfl (lv_at hl 0 rfl) ?_
    refine lv_iload_n C.1 C.2.1 (dd_at td_bits 9 rfl) rfl (lv_at hl 1 rfl) ?_
    refine lv_iload_n C.1 C.2.1 (dd_at td_bits 10 rfl) rfl (lv_at hl 3 rfl) ?_
    obtain ⟨r4, st2, hx3, hf⟩ := fc_of_bn hf
    refine mm_ci (As := [.int x1, .int x3]) (rest := [.int x2]) (n := 2) C hM (c_has l D o ad cs fu x1 x3 st) (List.mem_of_getElem? (i := 13) rfl) (dd_at td_bits 11 rfl) hx3 hl.1 hd_has ⟨Nat.le_of_ble_eq_true rfl, Nat.le_of_ble_eq_true rfl⟩ rfl rfl (Nat.le_of_ble_eq_true rfl) ⟨Nat.le_refl 0, Nat.le_refl 0⟩ (fun H locs hM => ?_)
    refine lv_if_eq (tgt := 24) C.1 C.2.1 (dd_at td_bits 12 rfl) (by decide) (fun c5 => ?_) (fun c5 => ?_)
    · replace hf := fc_of_t hf c5
      refine lv_iconst (v := (0 : Int32)) C.1 C.2.1 (dd_at td_bits 15 rfl) (by decide) ?_
      exact w_bits_b25 C fu K4 hK4 x1 x3 (0 : Int32) x2 st2 hf (lv_sub hl [0, 1, 3] rfl) hM
    · replace hf := fc_of_f hf c5
      refine lv_iconst (v := (1 : Int32)) C.1 C.2.1 (dd_at td_bits 13 rfl) (by decide) ?_
      refine lv_goto (tgt := 25) C.1 C.2.1 (dd_at td_bits 14 rfl) (by decide) ?_
      exact w_bits_b25 C fu K4 hK4 x1 x3 (1 : Int32) x2 st2 hf (lv_sub hl [0, 1, 3] rfl) hM
theorem w_bits_b4 {p : Program} {l : Launch} {e : Env} {s : State} {m : MethodId} {args : Array Value} {below : List Frame} {meth : Method} {c : Code} {D : va_G} {o : Nat} {ad : Nat → Nat} {cs : ClassId × ClassId × ClassId} {r : Int32} {st' : mm_S} (C : mm_C p s m args meth c cX12_bits 4 (some .int) D cs) (fu : Nat) (n : Nat) : ∀ (x1 : Int32) (x2 : Int32) (x3 : Int32) (st : mm_S), M_bits_b4 fu n x1 x2 x3 st = some (r, st') → ∀ (H : Heap) (locs : List Loc) (ls : Array Slot), lv_has ls 4 [(0, .ref o), (1, .int x1), (2, .int x2), (3, .int x3)] → mm_H D o ad cs s.heap st H locs → W p l e (mm_R 1 22) s m args below meth c H locs 0 0 (MQ below (mm_Qi D o ad cs r st') args s 0 0 (mm_A o ad)) (F0 m 4 ls []) := by
  induction n with
  | zero => exact fun _ _ _ _ hf => fc_no hf
  | succ n ih =>
    intro x1 x2 x3 st hf H locs ls hl hM
    exact w_bits_b4F C fu (fun x1 x2 x3 st => M_bits_b4 fu n x1 x2 x3 st) (fun x1 x2 x3 st H locs ls hf hl hM => ih x1 x2 x3 st hf H locs ls hl hM) x1 x2 x3 st hf hl hM
theorem w_bits {p : Program} {l : Launch} {e : Env} {s : State} {m : MethodId} {args : Array Value} {below : List Frame} {meth : Method} {c : Code} {D : va_G} {o : Nat} {ad : Nat → Nat} {cs : ClassId × ClassId × ClassId} {r : Int32} {st' : mm_S} (C : mm_C p s m args meth c cX12_bits 4 (some .int) D cs) (fu : Nat) (x1 : Int32) (st : mm_S) (hf : M_bits fu x1 st = some (r, st')) {H : Heap} {locs : List Loc} {ls : Array Slot} (hl : lv_has ls 4 [(0, .ref o), (1, .int x1)]) (hM : mm_H D o ad cs s.heap st H locs) : W p l e (mm_R 1 22) s m args below meth c H locs 0 0 (MQ below (mm_Qi D o ad cs r st') args s 0 0 (mm_A o ad)) (F0 m 0 ls []) := by
  unfold M_bits at hf
  refine lv_iconst (v := (0 : Int32)) C.1 C.2.1 (dd_at td_bits 0 rfl) (by decide) ?_
  refine lv_istore_n (lv' := [(2, .int (0 : Int32)), (0, .ref o), (1, .int x1)]) C.1 C.2.1 (dd_at td_bits 1 rfl) rfl hl (by decide) rfl (fun ls hl => ?_)
  refine lv_iconst (v := (0 : Int32)) C.1 C.2.1 (dd_at td_bits 2 rfl) (by decide) ?_
  refine lv_istore_n (lv' := [(3, .int (0 : Int32)), (2, .int (0 : Int32)), (0, .ref o), (1, .int x1)]) C.1 C.2.1 (dd_at td_bits 3 rfl) rfl hl (by decide) rfl (fun ls hl => ?_)
  exact w_bits_b4 C fu fu x1 (0 : Int32) (0 : Int32) st hf _ _ _ (lv_sub hl [2, 3, 1, 0] rfl) hM
theorem c_bits (l : Launch) (D : va_G) (o : Nat) (ad : Nat → Nat) (cs : ClassId × ClassId × ClassId) (fu : Nat) (x1 : Int32) (st : mm_S) : mm_Mi l D o ad cs yX12_bits cX12_bits 4 (some .int) 1 22 [.int x1] st (M_bits fu x1 st) := by
  intro r st' hf
  refine mm_enter (cc := cX12_bits) (nL := 4) (ret := some .int) (by decide) rfl (Nat.le_of_ble_eq_true rfl) ?_
  intro p e s m args below meth c ls C hl hM
  exact w_bits C fu x1 st hf hl hM

/-! isNeed -/
def tb_isNeed : List (Nat × Instr × Nat) := [(0, .aload_n 0, 1), (1, .iload_n 1, 1), (2, .iconst 0, 1), (3, .aload_n 0, 1), (4, .getfield 7, 3), (7, .iconst 1, 1), (8, .isub, 1), (9, .invokevirtual 207, 3), (12, .ireturn, 1)]
theorem td_isNeed : tb_isNeed.all (fun q => decide (decode cX12_isNeed q.1 = .ok (q.2.1, q.2.2))) = true := by decide +kernel
theorem hd_isNeed : yX12_isNeed.cls = RX12 ∧ yX12_isNeed.cls ≠ "java/lang/invoke/MethodHandle" ∧ yX12_isNeed.cls ≠ "java/lang/invoke/VarHandle" ∧ (parseMethodDescriptor yX12_isNeed.desc).map (fun d => d.parameters.length) = some 1 := by decide +kernel
theorem w_isNeed {p : Program} {l : Launch} {e : Env} {s : State} {m : MethodId} {args : Array Value} {below : List Frame} {meth : Method} {c : Code} {D : va_G} {o : Nat} {ad : Nat → Nat} {cs : ClassId × ClassId × ClassId} {r : Int32} {st' : mm_S} (C : mm_C p s m args meth c cX12_isNeed 2 (some .boolean) D cs) (fu : Nat) (x1 : Int32) (st : mm_S) (hf : M_isNeed fu x1 st = some (r, st')) {H : Heap} {locs : List Loc} {ls : Array Slot} (hl : lv_has ls 2 [(0, .ref o), (1, .int x1)]) (hM : mm_H D o ad cs s.heap st H locs) : W p l e (mm_R 1 23) s m args below meth c H locs 0 0 (MQ below (mm_Qi D o ad cs r st') args s 0 0 (mm_A o ad)) (F0 m 0 ls []) := by
  unfold M_isNeed at hf
  refine lv_aload_n C.1 C.2.1 (dd_at td_isNeed 0 rfl) rfl (lv_at hl 0 rfl) ?_
  refine lv_iload_n C.1 C.2.1 (dd_at td_isNeed 1 rfl) rfl (lv_at hl 1 rfl) ?_
  refine lv_iconst (v := (0 : Int32)) C.1 C.2.1 (dd_at td_isNeed 2 rfl) (by decide) ?_
  refine lv_aload_n C.1 C.2.1 (dd_at td_isNeed 3 rfl) rfl (lv_at hl 0 rfl) ?_
  refine mm_gI C hM 0 (dd_at td_isNeed 4 rfl) (by decide) (by decide) (by decide) ?_
  refine lv_iconst (v := (1 : Int32)) C.1 C.2.1 (dd_at td_isNeed 5 rfl) (by decide) ?_
  refine lv_isub C.1 C.2.1 (dd_at td_isNeed 6 rfl) ?_
  obtain ⟨r3, st1, hx2, hf⟩ := fc_of_bn hf
  refine mm_ci (As := [.int x1, .int (0 : Int32), .int ((mm_I st 0) - (1 : Int32))]) (rest := []) (n := 3) C hM (c_in l D o ad cs fu x1 (0 : Int32) ((mm_I st 0) - (1 : Int32)) st) (List.mem_of_getElem? (i := 18) rfl) (dd_at td_isNeed 7 rfl) hx2 hl.1 hd_in ⟨Nat.le_of_ble_eq_true rfl, Nat.le_of_ble_eq_true rfl⟩ rfl rfl (Nat.le_of_ble_eq_true rfl) ⟨Nat.le_refl 0, Nat.le_refl 0⟩ (fun H locs hM => ?_)
  obtain ⟨g4, hf⟩ := fc_of_gd hf
  exact mm_rz C hM (dd_at td_isNeed 8 rfl) (fc_of_zb g4) hf
theorem c_isNeed (l : Launch) (D : va_G) (o : Nat) (ad : Nat → Nat) (cs : ClassId × ClassId × ClassId) (fu : Nat) (x1 : Int32) (st : mm_S) : mm_Mi l D o ad cs yX12_isNeed cX12_isNeed 2 (some .boolean) 1 23 [.int x1] st (M_isNeed fu x1 st) := by
  intro r st' hf
  refine mm_enter (cc := cX12_isNeed) (nL := 2) (ret := some .boolean) (by decide) rfl (Nat.le_of_ble_eq_true rfl) ?_
  intro p e s m args below meth c ls C hl hM
  exact w_isNeed C fu x1 st hf hl hM

/-! isDarks -/
def tb_isDarks : List (Nat × Instr × Nat) := [(0, .aload_n 0, 1), (1, .iload_n 1, 1), (2, .iconst 0, 1), (3, .bipush 8, 2), (5, .invokevirtual 207, 3), (8, .ireturn, 1)]
theorem td_isDarks : tb_isDarks.all (fun q => decide (decode cX12_isDarks q.1 = .ok (q.2.1, q.2.2))) = true := by decide +kernel
theorem hd_isDarks : yX12_isDarks.cls = RX12 ∧ yX12_isDarks.cls ≠ "java/lang/invoke/MethodHandle" ∧ yX12_isDarks.cls ≠ "java/lang/invoke/VarHandle" ∧ (parseMethodDescriptor yX12_isDarks.desc).map (fun d => d.parameters.length) = some 1 := by decide +kernel
theorem w_isDarks {p : Program} {l : Launch} {e : Env} {s : State} {m : MethodId} {args : Array Value} {below : List Frame} {meth : Method} {c : Code} {D : va_G} {o : Nat} {ad : Nat → Nat} {cs : ClassId × ClassId × ClassId} {r : Int32} {st' : mm_S} (C : mm_C p s m args meth c cX12_isDarks 2 (some .boolean) D cs) (fu : Nat) (x1 : Int32) (st : mm_S) (hf : M_isDarks fu x1 st = some (r, st')) {H : Heap} {locs : List Loc} {ls : Array Slot} (hl : lv_has ls 2 [(0, .ref o), (1, .int x1)]) (hM : mm_H D o ad cs s.heap st H locs) : W p l e (mm_R 1 23) s m args below meth c H locs 0 0 (MQ below (mm_Qi D o ad cs r st') args s 0 0 (mm_A o ad)) (F0 m 0 ls []) := by
  unfold M_isDarks at hf
  refine lv_aload_n C.1 C.2.1 (dd_at td_isDarks 0 rfl) rfl (lv_at hl 0 rfl) ?_
  refine lv_iload_n C.1 C.2.1 (dd_at td_isDarks 1 rfl) rfl (lv_at hl 1 rfl) ?_
  refine lv_iconst (v := (0 : Int32)) C.1 C.2.1 (dd_at td_isDarks 2 rfl) (by decide) ?_
  refine lv_bipush (v := (8 : Int32)) C.1 C.2.1 (dd_at td_isDarks 3 rfl) (by decide) ?_
  obtain ⟨r3, st1, hx2, hf⟩ := fc_of_bn hf
  refine mm_ci (As := [.int x1, .int (0 : Int32), .int (8 : Int32)]) (rest := []) (n := 3) C hM (c_in l D o ad cs fu x1 (0 : Int32) (8 : Int32) st) (List.mem_of_getElem? (i := 18) rfl) (dd_at td_isDarks 4 rfl) hx2 hl.1 hd_in ⟨Nat.le_of_ble_eq_true rfl, Nat.le_of_ble_eq_true rfl⟩ rfl rfl (Nat.le_of_ble_eq_true rfl) ⟨Nat.le_refl 0, Nat.le_refl 0⟩ (fun H locs hM => ?_)
  obtain ⟨g4, hf⟩ := fc_of_gd hf
  exact mm_rz C hM (dd_at td_isDarks 5 rfl) (fc_of_zb g4) hf
theorem c_isDarks (l : Launch) (D : va_G) (o : Nat) (ad : Nat → Nat) (cs : ClassId × ClassId × ClassId) (fu : Nat) (x1 : Int32) (st : mm_S) : mm_Mi l D o ad cs yX12_isDarks cX12_isDarks 2 (some .boolean) 1 23 [.int x1] st (M_isDarks fu x1 st) := by
  intro r st' hf
  refine mm_enter (cc := cX12_isDarks) (nL := 2) (ret := some .boolean) (by decide) rfl (Nat.le_of_ble_eq_true rfl) ?_
  intro p e s m args below meth c ls C hl hM
  exact w_isDarks C fu x1 st hf hl hM

/-! need -/
def tb_need : List (Nat × Instr × Nat) := [(0, .aload_n 0, 1), (1, .iload_n 1, 1), (2, .iconst 0, 1), (3, .bipush 6, 2), (5, .invokevirtual 207, 3), (8, .ifCond .ne 5, 3), (11, .iconst (-1), 1), (12, .ireturn, 1), (13, .aload_n 0, 1), (14, .iload_n 2, 1), (15, .iconst 0, 1), (16, .bipush 9, 2), (18, .invokevirtual 207, 3), (21, .ifCond .ne 6, 3), (24, .bipush (-2), 2), (26, .ireturn, 1), (27, .aload_n 0, 1), (28, .getfield 7, 3), (31, .bipush 6, 2), (33, .if_icmp .ne 6, 3), (36, .bipush (-4), 2), (38, .ireturn, 1), (39, .aload_n 0, 1), (40, .getfield 22, 3), (43, .aload_n 0, 1), (44, .getfield 7, 3), (47, .iload_n 1, 1), (48, .iastore, 1), (49, .aload_n 0, 1), (50, .getfield 26, 3), (53, .aload_n 0, 1), (54, .getfield 7, 3), (57, .iload_n 2, 1), (58, .iastore, 1), (59, .aload_n 0, 1), (60, .getfield 29, 3), (63, .aload_n 0, 1), (64, .getfield 7, 3), (67, .iconst 0, 1), (68, .iastore, 1), (69, .iconst 0, 1), (70, .istore_n 3, 1), (71, .iload_n 3, 1), (72, .iconst 4, 1), (73, .if_icmp .ge 23, 3), (76, .aload_n 0, 1), (77, .getfield 32, 3), (80, .iconst 4, 1), (81, .aload_n 0, 1), (82, .getfield 7, 3), (85, .imul, 1), (86, .iload_n 3, 1), (87, .iadd, 1), (88, .iconst 0, 1), (89, .iastore, 1), (90, .iinc 3 1, 3), (93, .goto (-22), 3), (96, .aload_n 0, 1), (97, .dup, 1), (98, .getfield 7, 3), (101, .iconst 1, 1), (102, .iadd, 1), (103, .putfield 7, 3), (106, .aload_n 0, 1), (107, .getfield 7, 3), (110, .iconst 1, 1), (111, .isub, 1), (112, .ireturn, 1)]
theorem td_need : tb_need.all (fun q => decide (decode cX12_need q.1 = .ok (q.2.1, q.2.2))) = true := by decide +kernel
theorem w_need_b71F {p : Program} {l : Launch} {e : Env} {s : State} {m : MethodId} {args : Array Value} {below : List Frame} {meth : Method} {c : Code} {D : va_G} {o : Nat} {ad : Nat → Nat} {cs : ClassId × ClassId × ClassId} {r : Int32} {st' : mm_S} (C : mm_C p s m args meth c cX12_need 4 (some .int) D cs) (fu : Nat) (K71 : Int32 → mm_S → Option (Int32 × mm_S)) (hK71 : ∀ (x3 : Int32) (st : mm_S) (H : Heap) (locs : List Loc) (ls : Array Slot), K71 x3 st = some (r, st') → lv_has ls 4 [(0, .ref o), (3, .int x3)] → mm_H D o ad cs s.heap st H locs → W p l e (mm_R 1 23) s m args below meth c H locs 0 0 (MQ below (mm_Qi D o ad cs r st') args s 0 0 (mm_A o ad)) (F0 m 71 ls [])) (x3 : Int32) (st : mm_S) (hf : M_need_b71F fu K71 x3 st = some (r, st')) {H : Heap} {locs : List Loc} {ls : Array Slot} (hl : lv_has ls 4 [(0, .ref o), (3, .int x3)]) (hM : mm_H D o ad cs s.heap st H locs) : W p l e (mm_R 1 23) s m args below meth c H locs 0 0 (MQ below (mm_Qi D o ad cs r st') args s 0 0 (mm_A o ad)) (F0 m 71 ls []) := by
  unfold M_need_b71F at hf
  refine lv_iload_n C.1 C.2.1 (dd_at td_need 42 rfl) rfl (lv_at hl 1 rfl) ?_
  refine lv_iconst (v := (4 : Int32)) C.1 C.2.1 (dd_at td_need 43 rfl) (by decide) ?_
  refine lv_icmp_ge (tgt := 96) C.1 C.2.1 (dd_at td_need 44 rfl) (by decide) (fun c16 => ?_) (fun c16 => ?_)
  · replace hf := fc_of_t hf c16
    refine lv_aload_n C.1 C.2.1 (dd_at td_need 57 rfl) rfl (lv_at hl 0 rfl) ?_
    refine lv_dup C.1 C.2.1 (dd_at td_need 58 rfl) rfl ?_
    refine mm_gI C hM 0 (dd_at td_need 59 rfl) (by decide) (by decide) (by decide) ?_
    refine lv_iconst (v := (1 : Int32)) C.1 C.2.1 (dd_at td_need 60 rfl) (by decide) ?_
    refine lv_iadd C.1 C.2.1 (dd_at td_need 61 rfl) ?_
    refine mm_pI C hM 0 (dd_at td_need 62 rfl) (by decide) (by decide) (by decide) rfl rfl (fun st17 H locs est17 hM => ?_)
    replace hf := fc_of_nm hf st17 est17
    refine lv_aload_n C.1 C.2.1 (dd_at td_need 63 rfl) rfl (lv_at hl 0 rfl) ?_
    refine mm_gI C hM 0 (dd_at td_need 64 rfl) (by decide) (by decide) (by decide) ?_
    refine lv_iconst (v := (1 : Int32)) C.1 C.2.1 (dd_at td_need 65 rfl) (by decide) ?_
    refine lv_isub C.1 C.2.1 (dd_at td_need 66 rfl) ?_
    exact mm_ri C hM (dd_at td_need 67 rfl) hf
  · replace hf := fc_of_f hf c16
    refine lv_aload_n C.1 C.2.1 (dd_at td_need 45 rfl) rfl (lv_at hl 0 rfl) ?_
    refine mm_gA C hM 7 (dd_at td_need 46 rfl) (by decide) (by decide) (by decide) ?_
    refine lv_iconst (v := (4 : Int32)) C.1 C.2.1 (dd_at td_need 47 rfl) (by decide) ?_
    refine lv_aload_n C.1 C.2.1 (dd_at td_need 48 rfl) rfl (lv_at hl 0 rfl) ?_
    refine mm_gI C hM 0 (dd_at td_need 49 rfl) (by decide) (by decide) (by decide) ?_
    refine lv_imul C.1 C.2.1 (dd_at td_need 50 rfl) ?_
    refine lv_iload_n C.1 C.2.1 (dd_at td_need 51 rfl) rfl (lv_at hl 1 rfl) ?_
    refine lv_iadd C.1 C.2.1 (dd_at td_need 52 rfl) ?_
    refine lv_iconst (v := (0 : Int32)) C.1 C.2.1 (dd_at td_need 53 rfl) (by decide) ?_
    obtain ⟨g18, hf⟩ := fc_of_gd hf
    refine mm_iast C hM 7 (dd_at td_need 54 rfl) (by decide) (by decide) (fc_of_ix g18) (fun st19 H locs est19 hM => ?_)
    replace hf := fc_of_nm hf st19 est19
    obtain ⟨v20, ev20⟩ : ∃ y : Int32, y = x3 + (1 : Int32) := ⟨_, rfl⟩
    replace hf := fc_of_nm hf v20 ev20
    refine lv_iinc (v := v20) (lv' := [(3, .int v20), (0, .ref o)]) C.1 C.2.1 (dd_at td_need 55 rfl) hl (k := 1) rfl (by rw [ev20]; rfl) (by decide) rfl (fun ls hl => ?_)
    refine lv_goto (tgt := 71) C.1 C.2.1 (dd_at td_need 56 rfl) (by decide) ?_
    exact hK71 v20 st19 _ _ _ hf (lv_sub hl [1, 0] rfl) hM
theorem w_need_b71 {p : Program} {l : Launch} {e : Env} {s : State} {m : MethodId} {args : Array Value} {below : List Frame} {meth : Method} {c : Code} {D : va_G} {o : Nat} {ad : Nat → Nat} {cs : ClassId × ClassId × ClassId} {r : Int32} {st' : mm_S} (C : mm_C p s m args meth c cX12_need 4 (some .int) D cs) (fu : Nat) (n : Nat) : ∀ (x3 : Int32) (st : mm_S), M_need_b71 fu n x3 st = some (r, st') → ∀ (H : Heap) (locs : List Loc) (ls : Array Slot), lv_has ls 4 [(0, .ref o), (3, .int x3)] → mm_H D o ad cs s.heap st H locs → W p l e (mm_R 1 23) s m args below meth c H locs 0 0 (MQ below (mm_Qi D o ad cs r st') args s 0 0 (mm_A o ad)) (F0 m 71 ls []) := by
  induction n with
  | zero => exact fun _ _ hf => fc_no hf
  | succ n ih =>
    intro x3 st hf H locs ls hl hM
    exact w_need_b71F C fu (fun x3 st => M_need_b71 fu n x3 st) (fun x3 st H locs ls hf hl hM => ih x3 st hf H locs ls hl hM) x3 st hf hl hM
theorem w_need {p : Program} {l : Launch} {e : Env} {s : State} {m : MethodId} {args : Array Value} {below : List Frame} {meth : Method} {c : Code} {D : va_G} {o : Nat} {ad : Nat → Nat} {cs : ClassId × ClassId × ClassId} {r : Int32} {st' : mm_S} (C : mm_C p s m args meth c cX12_need 4 (some .int) D cs) (fu : Nat) (x1 : Int32) (x2 : Int32) (st : mm_S) (hf : M_need fu x1 x2 st = some (r, st')) {H : Heap} {locs : List Loc} {ls : Array Slot} (hl : lv_has ls 4 [(0, .ref o), (1, .int x1), (2, .int x2)]) (hM : mm_H D o ad cs s.heap st H locs) : W p l e (mm_R 1 23) s m args below meth c H locs 0 0 (MQ below (mm_Qi D o ad cs r st') args s 0 0 (mm_A o ad)) (F0 m 0 ls []) := by
  unfold M_need at hf
  refine lv_aload_n C.1 C.2.1 (dd_at td_need 0 rfl) rfl (lv_at hl 0 rfl) ?_
  refine lv_iload_n C.1 C.2.1 (dd_at td_need 1 rfl) rfl (lv_at hl 1 rfl) ?_
  refine lv_iconst (v := (0 : Int32)) C.1 C.2.1 (dd_at td_need 2 rfl) (by decide) ?_
  refine lv_bipush (v := (6 : Int32)) C.1 C.2.1 (dd_at td_need 3 rfl) (by decide) ?_
  obtain ⟨r3, st1, hx2, hf⟩ := fc_of_bn hf
  refine mm_ci (As := [.int x1, .int (0 : Int32), .int (6 : Int32)]) (rest := []) (n := 3) C hM (c_in l D o ad cs fu x1 (0 : Int32) (6 : Int32) st) (List.mem_of_getElem? (i := 18) rfl) (dd_at td_need 4 rfl) hx2 hl.1 hd_in ⟨Nat.le_of_ble_eq_true rfl, Nat.le_of_ble_eq_true rfl⟩ rfl rfl (Nat.le_of_ble_eq_true rfl) ⟨Nat.le_refl 0, Nat.le_refl 0⟩ (fun H locs hM => ?_)
  refine lv_if_ne (tgt := 13) C.1 C.2.1 (dd_at td_need 5 rfl) (by decide) (fun c4 => ?_) (fun c4 => ?_)
  · replace hf := fc_of_f hf c4
    refine lv_aload_n C.1 C.2.1 (dd_at td_need 8 rfl) rfl (lv_at hl 0 rfl) ?_
    refine lv_iload_n C.1 C.2.1 (dd_at td_need 9 rfl) rfl (lv_at hl 2 rfl) ?_
    refine lv_iconst (v := (0 : Int32)) C.1 C.2.1 (dd_at td_need 10 rfl) (by decide) ?_
    refine lv_bipush (v := (9 : Int32)) C.1 C.2.1 (dd_at td_need 11 rfl) (by decide) ?_
    obtain ⟨r7, st5, hx6, hf⟩ := fc_of_bn hf
    refine mm_ci (As := [.int x2, .int (0 : Int32), .int (9 : Int32)]) (rest := []) (n := 3) C hM (c_in l D o ad cs fu x2 (0 : Int32) (9 : Int32) st1) (List.mem_of_getElem? (i := 18) rfl) (dd_at td_need 12 rfl) hx6 hl.1 hd_in ⟨Nat.le_of_ble_eq_true rfl, Nat.le_of_ble_eq_true rfl⟩ rfl rfl (Nat.le_of_ble_eq_true rfl) ⟨Nat.le_refl 0, Nat.le_refl 0⟩ (fun H locs hM => ?_)
    refine lv_if_ne (tgt := 27) C.1 C.2.1 (dd_at td_need 13 rfl) (by decide) (fun c8 => ?_) (fun c8 => ?_)
    · replace hf := fc_of_f hf c8
      refine lv_aload_n C.1 C.2.1 (dd_at td_need 16 rfl) rfl (lv_at hl 0 rfl) ?_
      refine mm_gI C hM 0 (dd_at td_need 17 rfl) (by decide) (by decide) (by decide) ?_
      refine lv_bipush (v := (6 : Int32)) C.1 C.2.1 (dd_at td_need 18 rfl) (by decide) ?_
      refine lv_icmp_ne (tgt := 39) C.1 C.2.1 (dd_at td_need 19 rfl) (by decide) (fun c9 => ?_) (fun c9 => ?_)
      · replace hf := fc_of_f hf c9
        refine lv_aload_n C.1 C.2.1 (dd_at td_need 22 rfl) rfl (lv_at hl 0 rfl) ?_
        refine mm_gA C hM 4 (dd_at td_need 23 rfl) (by decide) (by decide) (by decide) ?_
        refine lv_aload_n C.1 C.2.1 (dd_at td_need 24 rfl) rfl (lv_at hl 0 rfl) ?_
        refine mm_gI C hM 0 (dd_at td_need 25 rfl) (by decide) (by decide) (by decide) ?_
        refine lv_iload_n C.1 C.2.1 (dd_at td_need 26 rfl) rfl (lv_at hl 1 rfl) ?_
        obtain ⟨g10, hf⟩ := fc_of_gd hf
        refine mm_iast C hM 4 (dd_at td_need 27 rfl) (by decide) (by decide) (fc_of_ix g10) (fun st11 H locs est11 hM => ?_)
        replace hf := fc_of_nm hf st11 est11
        refine lv_aload_n C.1 C.2.1 (dd_at td_need 28 rfl) rfl (lv_at hl 0 rfl) ?_
        refine mm_gA C hM 5 (dd_at td_need 29 rfl) (by decide) (by decide) (by decide) ?_
        refine lv_aload_n C.1 C.2.1 (dd_at td_need 30 rfl) rfl (lv_at hl 0 rfl) ?_
        refine mm_gI C hM 0 (dd_at td_need 31 rfl) (by decide) (by decide) (by decide) ?_
        refine lv_iload_n C.1 C.2.1 (dd_at td_need 32 rfl) rfl (lv_at hl 2 rfl) ?_
        obtain ⟨g12, hf⟩ := fc_of_gd hf
        refine mm_iast C hM 5 (dd_at td_need 33 rfl) (by decide) (by decide) (fc_of_ix g12) (fun st13 H locs est13 hM => ?_)
        replace hf := fc_of_nm hf st13 est13
        refine lv_aload_n C.1 C.2.1 (dd_at td_need 34 rfl) rfl (lv_at hl 0 rfl) ?_
        refine mm_gA C hM 6 (dd_at td_need 35 rfl) (by decide) (by decide) (by decide) ?_
        refine lv_aload_n C.1 C.2.1 (dd_at td_need 36 rfl) rfl (lv_at hl 0 rfl) ?_
        refine mm_gI C hM 0 (dd_at td_need 37 rfl) (by decide) (by decide) (by decide) ?_
        refine lv_iconst (v := (0 : Int32)) C.1 C.2.1 (dd_at td_need 38 rfl) (by decide) ?_
        obtain ⟨g14, hf⟩ := fc_of_gd hf
        refine mm_iast C hM 6 (dd_at td_need 39 rfl) (by decide) (by decide) (fc_of_ix g14) (fun st15 H locs est15 hM => ?_)
        replace hf := fc_of_nm hf st15 est15
        refine lv_iconst (v := (0 : Int32)) C.1 C.2.1 (dd_at td_need 40 rfl) (by decide) ?_
        refine lv_istore_n (lv' := [(3, .int (0 : Int32)), (0, .ref o), (1, .int x1), (2, .int x2)]) C.1 C.2.1 (dd_at td_need 41 rfl) rfl hl (by decide) rfl (fun ls hl => ?_)
        exact w_need_b71 C fu fu (0 : Int32) st15 hf _ _ _ (lv_sub hl [1, 0] rfl) hM
      · replace hf := fc_of_t hf c9
        refine lv_bipush (v := (-4 : Int32)) C.1 C.2.1 (dd_at td_need 20 rfl) (by decide) ?_
        exact mm_ri C hM (dd_at td_need 21 rfl) hf
    · replace hf := fc_of_t hf c8
      refine lv_bipush (v := (-2 : Int32)) C.1 C.2.1 (dd_at td_need 14 rfl) (by decide) ?_
      exact mm_ri C hM (dd_at td_need 15 rfl) hf
  · replace hf := fc_of_t hf c4
    refine lv_iconst (v := (-1 : Int32)) C.1 C.2.1 (dd_at td_need 6 rfl) (by decide) ?_
    exact mm_ri C hM (dd_at td_need 7 rfl) hf
theorem c_need (l : Launch) (D : va_G) (o : Nat) (ad : Nat → Nat) (cs : ClassId × ClassId × ClassId) (fu : Nat) (x1 : Int32) (x2 : Int32) (st : mm_S) : mm_Mi l D o ad cs yX12_need cX12_need 4 (some .int) 1 23 [.int x1, .int x2] st (M_need fu x1 x2 st) := by
  intro r st' hf
  refine mm_enter (cc := cX12_need) (nL := 4) (ret := some .int) (by decide) rfl (Nat.le_of_ble_eq_true rfl) ?_
  intro p e s m args below meth c ls C hl hM
  exact w_need C fu x1 x2 st hf hl hM

/-! darks -/
def tb_darks : List (Nat × Instr × Nat) := [(0, .aload_n 0, 1), (1, .iload_n 1, 1), (2, .invokevirtual 211, 3), (5, .ifCond .ne 6, 3), (8, .bipush (-2), 2), (10, .ireturn, 1), (11, .aload_n 0, 1), (12, .getfield 13, 3), (15, .istore_n 2, 1), (16, .aload_n 0, 1), (17, .iload_n 1, 1), (18, .putfield 13, 3), (21, .iload_n 2, 1), (22, .ireturn, 1)]
theorem td_darks : tb_darks.all (fun q => decide (decode cX12_darks q.1 = .ok (q.2.1, q.2.2))) = true := by decide +kernel
theorem w_darks {p : Program} {l : Launch} {e : Env} {s : State} {m : MethodId} {args : Array Value} {below : List Frame} {meth : Method} {c : Code} {D : va_G} {o : Nat} {ad : Nat → Nat} {cs : ClassId × ClassId × ClassId} {r : Int32} {st' : mm_S} (C : mm_C p s m args meth c cX12_darks 3 (some .int) D cs) (fu : Nat) (x1 : Int32) (st : mm_S) (hf : M_darks fu x1 st = some (r, st')) {H : Heap} {locs : List Loc} {ls : Array Slot} (hl : lv_has ls 3 [(0, .ref o), (1, .int x1)]) (hM : mm_H D o ad cs s.heap st H locs) : W p l e (mm_R 2 44) s m args below meth c H locs 0 0 (MQ below (mm_Qi D o ad cs r st') args s 0 0 (mm_A o ad)) (F0 m 0 ls []) := by
  unfold M_darks at hf
  refine lv_aload_n C.1 C.2.1 (dd_at td_darks 0 rfl) rfl (lv_at hl 0 rfl) ?_
  refine lv_iload_n C.1 C.2.1 (dd_at td_darks 1 rfl) rfl (lv_at hl 1 rfl) ?_
  obtain ⟨r3, st1, hx2, hf⟩ := fc_of_bn hf
  refine mm_ci (As := [.int x1]) (rest := []) (n := 1) C hM (c_isDarks l D o ad cs fu x1 st) (List.mem_of_getElem? (i := 20) rfl) (dd_at td_darks 2 rfl) hx2 hl.1 hd_isDarks ⟨Nat.le_of_ble_eq_true rfl, Nat.le_of_ble_eq_true rfl⟩ rfl rfl (Nat.le_of_ble_eq_true rfl) ⟨Nat.le_refl 0, Nat.le_refl 0⟩ (fun H locs hM => ?_)
  refine lv_if_ne (tgt := 11) C.1 C.2.1 (dd_at td_darks 3 rfl) (by decide) (fun c4 => ?_) (fun c4 => ?_)
  · replace hf := fc_of_f hf c4
    refine lv_aload_n C.1 C.2.1 (dd_at td_darks 6 rfl) rfl (lv_at hl 0 rfl) ?_
    refine mm_gI C hM 1 (dd_at td_darks 7 rfl) (by decide) (by decide) (by decide) ?_
    refine lv_topi (fun v5 ev5 => ?_)
    replace hf := fc_of_nm hf v5 ev5
    refine lv_istore_n (lv' := [(2, .int v5), (0, .ref o), (1, .int x1)]) C.1 C.2.1 (dd_at td_darks 8 rfl) rfl hl (by decide) rfl (fun ls hl => ?_)
    refine lv_aload_n C.1 C.2.1 (dd_at td_darks 9 rfl) rfl (lv_at hl 1 rfl) ?_
    refine lv_iload_n C.1 C.2.1 (dd_at td_darks 10 rfl) rfl (lv_at hl 2 rfl) ?_
    refine mm_pI C hM 1 (dd_at td_darks 11 rfl) (by decide) (by decide) (by decide) rfl rfl (fun st6 H locs est6 hM => ?_)
    replace hf := fc_of_nm hf st6 est6
    refine lv_iload_n C.1 C.2.1 (dd_at td_darks 12 rfl) rfl (lv_at hl 0 rfl) ?_
    exact mm_ri C hM (dd_at td_darks 13 rfl) hf
  · replace hf := fc_of_t hf c4
    refine lv_bipush (v := (-2 : Int32)) C.1 C.2.1 (dd_at td_darks 4 rfl) (by decide) ?_
    exact mm_ri C hM (dd_at td_darks 5 rfl) hf
theorem c_darks (l : Launch) (D : va_G) (o : Nat) (ad : Nat → Nat) (cs : ClassId × ClassId × ClassId) (fu : Nat) (x1 : Int32) (st : mm_S) : mm_Mi l D o ad cs yX12_darks cX12_darks 3 (some .int) 2 44 [.int x1] st (M_darks fu x1 st) := by
  intro r st' hf
  refine mm_enter (cc := cX12_darks) (nL := 3) (ret := some .int) (by decide) rfl (Nat.le_of_ble_eq_true rfl) ?_
  intro p e s m args below meth c ls C hl hM
  exact w_darks C fu x1 st hf hl hM

/-! row -/
def tb_row : List (Nat × Instr × Nat) := [(0, .aload_n 0, 1), (1, .iload_n 1, 1), (2, .invokevirtual 215, 3), (5, .ifCond .eq 13, 3), (8, .aload_n 0, 1), (9, .iload_n 2, 1), (10, .iconst 0, 1), (11, .iconst 3, 1), (12, .invokevirtual 207, 3), (15, .ifCond .ne 5, 3), (18, .iconst (-1), 1), (19, .ireturn, 1), (20, .aload_n 0, 1), (21, .iload_n 3, 1), (22, .iconst 0, 1), (23, .bipush 9, 2), (25, .invokevirtual 207, 3), (28, .ifCond .ne 6, 3), (31, .bipush (-2), 2), (33, .ireturn, 1), (34, .aload_n 0, 1), (35, .getfield 22, 3), (38, .iload_n 1, 1), (39, .iaload, 1), (40, .bipush 6, 2), (42, .if_icmp .eq 6, 3), (45, .bipush (-3), 2), (47, .ireturn, 1), (48, .aload_n 0, 1), (49, .getfield 32, 3), (52, .iconst 4, 1), (53, .iload_n 1, 1), (54, .imul, 1), (55, .iload_n 2, 1), (56, .iadd, 1), (57, .iaload, 1), (58, .istore 4, 2), (60, .aload_n 0, 1), (61, .getfield 32, 3), (64, .iconst 4, 1), (65, .iload_n 1, 1), (66, .imul, 1), (67, .iload_n 2, 1), (68, .iadd, 1), (69, .iload_n 3, 1), (70, .iastore, 1), (71, .iload 4, 2), (73, .ireturn, 1)]
theorem td_row : tb_row.all (fun q => decide (decode cX12_row q.1 = .ok (q.2.1, q.2.2))) = true := by decide +kernel
theorem w_row {p : Program} {l : Launch} {e : Env} {s : State} {m : MethodId} {args : Array Value} {below : List Frame} {meth : Method} {c : Code} {D : va_G} {o : Nat} {ad : Nat → Nat} {cs : ClassId × ClassId × ClassId} {r : Int32} {st' : mm_S} (C : mm_C p s m args meth c cX12_row 5 (some .int) D cs) (fu : Nat) (x1 : Int32) (x2 : Int32) (x3 : Int32) (st : mm_S) (hf : M_row fu x1 x2 x3 st = some (r, st')) {H : Heap} {locs : List Loc} {ls : Array Slot} (hl : lv_has ls 5 [(0, .ref o), (1, .int x1), (2, .int x2), (3, .int x3)]) (hM : mm_H D o ad cs s.heap st H locs) : W p l e (mm_R 2 44) s m args below meth c H locs 0 0 (MQ below (mm_Qi D o ad cs r st') args s 0 0 (mm_A o ad)) (F0 m 0 ls []) := by
  unfold M_row at hf
  refine lv_aload_n C.1 C.2.1 (dd_at td_row 0 rfl) rfl (lv_at hl 0 rfl) ?_
  refine lv_iload_n C.1 C.2.1 (dd_at td_row 1 rfl) rfl (lv_at hl 1 rfl) ?_
  obtain ⟨r3, st1, hx2, hf⟩ := fc_of_bn hf
  refine mm_ci (As := [.int x1]) (rest := []) (n := 1) C hM (c_isNeed l D o ad cs fu x1 st) (List.mem_of_getElem? (i := 22) rfl) (dd_at td_row 2 rfl) hx2 hl.1 hd_isNeed ⟨Nat.le_of_ble_eq_true rfl, Nat.le_of_ble_eq_true rfl⟩ rfl rfl (Nat.le_of_ble_eq_true rfl) ⟨Nat.le_refl 0, Nat.le_refl 0⟩ (fun H locs hM => ?_)
  refine lv_if_eq (tgt := 18) C.1 C.2.1 (dd_at td_row 3 rfl) (by decide) (fun c4 => ?_) (fun c4 => ?_)
  · replace hf := fc_of_t hf c4
    refine lv_iconst (v := (-1 : Int32)) C.1 C.2.1 (dd_at td_row 10 rfl) (by decide) ?_
    exact mm_ri C hM (dd_at td_row 11 rfl) hf
  · replace hf := fc_of_f hf c4
    refine lv_aload_n C.1 C.2.1 (dd_at td_row 4 rfl) rfl (lv_at hl 0 rfl) ?_
    refine lv_iload_n C.1 C.2.1 (dd_at td_row 5 rfl) rfl (lv_at hl 2 rfl) ?_
    refine lv_iconst (v := (0 : Int32)) C.1 C.2.1 (dd_at td_row 6 rfl) (by decide) ?_
    refine lv_iconst (v := (3 : Int32)) C.1 C.2.1 (dd_at td_row 7 rfl) (by decide) ?_
    obtain ⟨r7, st5, hx6, hf⟩ := fc_of_bn hf
    refine mm_ci (As := [.int x2, .int (0 : Int32), .int (3 : Int32)]) (rest := []) (n := 3) C hM (c_in l D o ad cs fu x2 (0 : Int32) (3 : Int32) st1) (List.mem_of_getElem? (i := 18) rfl) (dd_at td_row 8 rfl) hx6 hl.1 hd_in ⟨Nat.le_of_ble_eq_true rfl, Nat.le_of_ble_eq_true rfl⟩ rfl rfl (Nat.le_of_ble_eq_true rfl) ⟨Nat.le_refl 0, Nat.le_refl 0⟩ (fun H locs hM => ?_)
    refine lv_if_ne (tgt := 20) C.1 C.2.1 (dd_at td_row 9 rfl) (by decide) (fun c8 => ?_) (fun c8 => ?_)
    · replace hf := fc_of_f hf c8
      refine lv_aload_n C.1 C.2.1 (dd_at td_row 12 rfl) rfl (lv_at hl 0 rfl) ?_
      refine lv_iload_n C.1 C.2.1 (dd_at td_row 13 rfl) rfl (lv_at hl 3 rfl) ?_
      refine lv_iconst (v := (0 : Int32)) C.1 C.2.1 (dd_at td_row 14 rfl) (by decide) ?_
      refine lv_bipush (v := (9 : Int32)) C.1 C.2.1 (dd_at td_row 15 rfl) (by decide) ?_
      obtain ⟨r11, st9, hx10, hf⟩ := fc_of_bn hf
      refine mm_ci (As := [.int x3, .int (0 : Int32), .int (9 : Int32)]) (rest := []) (n := 3) C hM (c_in l D o ad cs fu x3 (0 : Int32) (9 : Int32) st5) (List.mem_of_getElem? (i := 18) rfl) (dd_at td_row 16 rfl) hx10 hl.1 hd_in ⟨Nat.le_of_ble_eq_true rfl, Nat.le_of_ble_eq_true rfl⟩ rfl rfl (Nat.le_of_ble_eq_true rfl) ⟨Nat.le_refl 0, Nat.le_refl 0⟩ (fun H locs hM => ?_)
      refine lv_if_ne (tgt := 34) C.1 C.2.1 (dd_at td_row 17 rfl) (by decide) (fun c12 => ?_) (fun c12 => ?_)
      · replace hf := fc_of_f hf c12
        refine lv_aload_n C.1 C.2.1 (dd_at td_row 20 rfl) rfl (lv_at hl 0 rfl) ?_
        refine mm_gA C hM 4 (dd_at td_row 21 rfl) (by decide) (by decide) (by decide) ?_
        refine lv_iload_n C.1 C.2.1 (dd_at td_row 22 rfl) rfl (lv_at hl 1 rfl) ?_
        obtain ⟨g13, hf⟩ := fc_of_gd hf
        refine mm_iald C hM 4 (dd_at td_row 23 rfl) (by decide) (by decide) (fc_of_ix g13) ?_
        refine lv_bipush (v := (6 : Int32)) C.1 C.2.1 (dd_at td_row 24 rfl) (by decide) ?_
        refine lv_icmp_eq (tgt := 48) C.1 C.2.1 (dd_at td_row 25 rfl) (by decide) (fun c14 => ?_) (fun c14 => ?_)
        · replace hf := fc_of_t hf c14
          refine lv_aload_n C.1 C.2.1 (dd_at td_row 28 rfl) rfl (lv_at hl 0 rfl) ?_
          refine mm_gA C hM 7 (dd_at td_row 29 rfl) (by decide) (by decide) (by decide) ?_
          refine lv_iconst (v := (4 : Int32)) C.1 C.2.1 (dd_at td_row 30 rfl) (by decide) ?_
          refine lv_iload_n C.1 C.2.1 (dd_at td_row 31 rfl) rfl (lv_at hl 1 rfl) ?_
          refine lv_imul C.1 C.2.1 (dd_at td_row 32 rfl) ?_
          refine lv_iload_n C.1 C.2.1 (dd_at td_row 33 rfl) rfl (lv_at hl 2 rfl) ?_
          refine lv_iadd C.1 C.2.1 (dd_at td_row 34 rfl) ?_
          obtain ⟨g15, hf⟩ := fc_of_gd hf
          refine mm_iald C hM 7 (dd_at td_row 35 rfl) (by decide) (by decide) (fc_of_ix g15) ?_
          refine lv_topi (fun v16 ev16 => ?_)
          replace hf := fc_of_nm hf v16 ev16
          refine lv_istore (lv' := [(4, .int v16), (0, .ref o), (1, .int x1), (2, .int x2), (3, .int x3)]) C.1 C.2.1 (dd_at td_row 36 rfl) hl (by decide) rfl (fun ls hl => ?_)
          refine lv_aload_n C.1 C.2.1 (dd_at td_row 37 rfl) rfl (lv_at hl 1 rfl) ?_
          refine mm_gA C hM 7 (dd_at td_row 38 rfl) (by decide) (by decide) (by decide) ?_
          refine lv_iconst (v := (4 : Int32)) C.1 C.2.1 (dd_at td_row 39 rfl) (by decide) ?_
          refine lv_iload_n C.1 C.2.1 (dd_at td_row 40 rfl) rfl (lv_at hl 2 rfl) ?_
          refine lv_imul C.1 C.2.1 (dd_at td_row 41 rfl) ?_
          refine lv_iload_n C.1 C.2.1 (dd_at td_row 42 rfl) rfl (lv_at hl 3 rfl) ?_
          refine lv_iadd C.1 C.2.1 (dd_at td_row 43 rfl) ?_
          refine lv_iload_n C.1 C.2.1 (dd_at td_row 44 rfl) rfl (lv_at hl 4 rfl) ?_
          obtain ⟨g17, hf⟩ := fc_of_gd hf
          refine mm_iast C hM 7 (dd_at td_row 45 rfl) (by decide) (by decide) (fc_of_ix g17) (fun st18 H locs est18 hM => ?_)
          replace hf := fc_of_nm hf st18 est18
          refine lv_iload C.1 C.2.1 (dd_at td_row 46 rfl) (lv_at hl 0 rfl) ?_
          exact mm_ri C hM (dd_at td_row 47 rfl) hf
        · replace hf := fc_of_f hf c14
          refine lv_bipush (v := (-3 : Int32)) C.1 C.2.1 (dd_at td_row 26 rfl) (by decide) ?_
          exact mm_ri C hM (dd_at td_row 27 rfl) hf
      · replace hf := fc_of_t hf c12
        refine lv_bipush (v := (-2 : Int32)) C.1 C.2.1 (dd_at td_row 18 rfl) (by decide) ?_
        exact mm_ri C hM (dd_at td_row 19 rfl) hf
    · replace hf := fc_of_t hf c8
      refine lv_iconst (v := (-1 : Int32)) C.1 C.2.1 (dd_at td_row 10 rfl) (by decide) ?_
      exact mm_ri C hM (dd_at td_row 11 rfl) hf
theorem c_row (l : Launch) (D : va_G) (o : Nat) (ad : Nat → Nat) (cs : ClassId × ClassId × ClassId) (fu : Nat) (x1 : Int32) (x2 : Int32) (x3 : Int32) (st : mm_S) : mm_Mi l D o ad cs yX12_row cX12_row 5 (some .int) 2 44 [.int x1, .int x2, .int x3] st (M_row fu x1 x2 x3 st) := by
  intro r st' hf
  refine mm_enter (cc := cX12_row) (nL := 5) (ret := some .int) (by decide) rfl (Nat.le_of_ble_eq_true rfl) ?_
  intro p e s m args below meth c ls C hl hM
  exact w_row C fu x1 x2 x3 st hf hl hM

/-! feed -/
def tb_feed : List (Nat × Instr × Nat) := [(0, .aload_n 0, 1), (1, .iload_n 1, 1), (2, .iconst 0, 1), (3, .bipush 127, 2), (5, .invokevirtual 207, 3), (8, .ifCond .ne 6, 3), (11, .bipush (-2), 2), (13, .ireturn, 1), (14, .aload_n 0, 1), (15, .getfield 41, 3), (18, .bipush 100, 2), (20, .if_icmp .ne 6, 3), (23, .bipush (-4), 2), (25, .ireturn, 1), (26, .aload_n 0, 1), (27, .getfield 50, 3), (30, .aload_n 0, 1), (31, .getfield 41, 3), (34, .iload_n 1, 1), (35, .iastore, 1), (36, .aload_n 0, 1), (37, .dup, 1), (38, .getfield 41, 3), (41, .iconst 1, 1), (42, .iadd, 1), (43, .putfield 41, 3), (46, .aload_n 0, 1), (47, .getfield 41, 3), (50, .ireturn, 1)]
theorem td_feed : tb_feed.all (fun q => decide (decode cX12_feed q.1 = .ok (q.2.1, q.2.2))) = true := by decide +kernel
theorem w_feed {p : Program} {l : Launch} {e : Env} {s : State} {m : MethodId} {args : Array Value} {below : List Frame} {meth : Method} {c : Code} {D : va_G} {o : Nat} {ad : Nat → Nat} {cs : ClassId × ClassId × ClassId} {r : Int32} {st' : mm_S} (C : mm_C p s m args meth c cX12_feed 2 (some .int) D cs) (fu : Nat) (x1 : Int32) (st : mm_S) (hf : M_feed fu x1 st = some (r, st')) {H : Heap} {locs : List Loc} {ls : Array Slot} (hl : lv_has ls 2 [(0, .ref o), (1, .int x1)]) (hM : mm_H D o ad cs s.heap st H locs) : W p l e (mm_R 1 23) s m args below meth c H locs 0 0 (MQ below (mm_Qi D o ad cs r st') args s 0 0 (mm_A o ad)) (F0 m 0 ls []) := by
  unfold M_feed at hf
  refine lv_aload_n C.1 C.2.1 (dd_at td_feed 0 rfl) rfl (lv_at hl 0 rfl) ?_
  refine lv_iload_n C.1 C.2.1 (dd_at td_feed 1 rfl) rfl (lv_at hl 1 rfl) ?_
  refine lv_iconst (v := (0 : Int32)) C.1 C.2.1 (dd_at td_feed 2 rfl) (by decide) ?_
  refine lv_bipush (v := (127 : Int32)) C.1 C.2.1 (dd_at td_feed 3 rfl) (by decide) ?_
  obtain ⟨r3, st1, hx2, hf⟩ := fc_of_bn hf
  refine mm_ci (As := [.int x1, .int (0 : Int32), .int (127 : Int32)]) (rest := []) (n := 3) C hM (c_in l D o ad cs fu x1 (0 : Int32) (127 : Int32) st) (List.mem_of_getElem? (i := 18) rfl) (dd_at td_feed 4 rfl) hx2 hl.1 hd_in ⟨Nat.le_of_ble_eq_true rfl, Nat.le_of_ble_eq_true rfl⟩ rfl rfl (Nat.le_of_ble_eq_true rfl) ⟨Nat.le_refl 0, Nat.le_refl 0⟩ (fun H locs hM => ?_)
  refine lv_if_ne (tgt := 14) C.1 C.2.1 (dd_at td_feed 5 rfl) (by decide) (fun c4 => ?_) (fun c4 => ?_)
  · replace hf := fc_of_f hf c4
    refine lv_aload_n C.1 C.2.1 (dd_at td_feed 8 rfl) rfl (lv_at hl 0 rfl) ?_
    refine mm_gI C hM 10 (dd_at td_feed 9 rfl) (by decide) (by decide) (by decide) ?_
    refine lv_bipush (v := (100 : Int32)) C.1 C.2.1 (dd_at td_feed 10 rfl) (by decide) ?_
    refine lv_icmp_ne (tgt := 26) C.1 C.2.1 (dd_at td_feed 11 rfl) (by decide) (fun c5 => ?_) (fun c5 => ?_)
    · replace hf := fc_of_f hf c5
      refine lv_aload_n C.1 C.2.1 (dd_at td_feed 14 rfl) rfl (lv_at hl 0 rfl) ?_
      refine mm_gA C hM 13 (dd_at td_feed 15 rfl) (by decide) (by decide) (by decide) ?_
      refine lv_aload_n C.1 C.2.1 (dd_at td_feed 16 rfl) rfl (lv_at hl 0 rfl) ?_
      refine mm_gI C hM 10 (dd_at td_feed 17 rfl) (by decide) (by decide) (by decide) ?_
      refine lv_iload_n C.1 C.2.1 (dd_at td_feed 18 rfl) rfl (lv_at hl 1 rfl) ?_
      obtain ⟨g6, hf⟩ := fc_of_gd hf
      refine mm_iast C hM 13 (dd_at td_feed 19 rfl) (by decide) (by decide) (fc_of_ix g6) (fun st7 H locs est7 hM => ?_)
      replace hf := fc_of_nm hf st7 est7
      refine lv_aload_n C.1 C.2.1 (dd_at td_feed 20 rfl) rfl (lv_at hl 0 rfl) ?_
      refine lv_dup C.1 C.2.1 (dd_at td_feed 21 rfl) rfl ?_
      refine mm_gI C hM 10 (dd_at td_feed 22 rfl) (by decide) (by decide) (by decide) ?_
      refine lv_iconst (v := (1 : Int32)) C.1 C.2.1 (dd_at td_feed 23 rfl) (by decide) ?_
      refine lv_iadd C.1 C.2.1 (dd_at td_feed 24 rfl) ?_
      refine mm_pI C hM 10 (dd_at td_feed 25 rfl) (by decide) (by decide) (by decide) rfl rfl (fun st8 H locs est8 hM => ?_)
      replace hf := fc_of_nm hf st8 est8
      refine lv_aload_n C.1 C.2.1 (dd_at td_feed 26 rfl) rfl (lv_at hl 0 rfl) ?_
      refine mm_gI C hM 10 (dd_at td_feed 27 rfl) (by decide) (by decide) (by decide) ?_
      exact mm_ri C hM (dd_at td_feed 28 rfl) hf
    · replace hf := fc_of_t hf c5
      refine lv_bipush (v := (-4 : Int32)) C.1 C.2.1 (dd_at td_feed 12 rfl) (by decide) ?_
      exact mm_ri C hM (dd_at td_feed 13 rfl) hf
  · replace hf := fc_of_t hf c4
    refine lv_bipush (v := (-2 : Int32)) C.1 C.2.1 (dd_at td_feed 6 rfl) (by decide) ?_
    exact mm_ri C hM (dd_at td_feed 7 rfl) hf
theorem c_feed (l : Launch) (D : va_G) (o : Nat) (ad : Nat → Nat) (cs : ClassId × ClassId × ClassId) (fu : Nat) (x1 : Int32) (st : mm_S) : mm_Mi l D o ad cs yX12_feed cX12_feed 2 (some .int) 1 23 [.int x1] st (M_feed fu x1 st) := by
  intro r st' hf
  refine mm_enter (cc := cX12_feed) (nL := 2) (ret := some .int) (by decide) rfl (Nat.le_of_ble_eq_true rfl) ?_
  intro p e s m args below meth c ls C hl hM
  exact w_feed C fu x1 st hf hl hM

/-! next -/
def tb_next : List (Nat × Instr × Nat) := [(0, .aload_n 0, 1), (1, .getfield 44, 3), (4, .aload_n 0, 1), (5, .getfield 41, 3), (8, .if_icmp .ge 15, 3), (11, .aload_n 0, 1), (12, .getfield 50, 3), (15, .aload_n 0, 1), (16, .getfield 44, 3), (19, .iaload, 1), (20, .goto 4, 3), (23, .iconst (-1), 1), (24, .ireturn, 1)]
theorem td_next : tb_next.all (fun q => decide (decode cX12_next q.1 = .ok (q.2.1, q.2.2))) = true := by decide +kernel
theorem hd_next : yX12_next.cls = RX12 ∧ yX12_next.cls ≠ "java/lang/invoke/MethodHandle" ∧ yX12_next.cls ≠ "java/lang/invoke/VarHandle" ∧ (parseMethodDescriptor yX12_next.desc).map (fun d => d.parameters.length) = some 0 := by decide +kernel
theorem w_next {p : Program} {l : Launch} {e : Env} {s : State} {m : MethodId} {args : Array Value} {below : List Frame} {meth : Method} {c : Code} {D : va_G} {o : Nat} {ad : Nat → Nat} {cs : ClassId × ClassId × ClassId} {r : Int32} {st' : mm_S} (C : mm_C p s m args meth c cX12_next 1 (some .int) D cs) (fu : Nat) (st : mm_S) (hf : M_next fu st = some (r, st')) {H : Heap} {locs : List Loc} {ls : Array Slot} (hl : lv_has ls 1 [(0, .ref o)]) (hM : mm_H D o ad cs s.heap st H locs) : W p l e (mm_R 0 0) s m args below meth c H locs 0 0 (MQ below (mm_Qi D o ad cs r st') args s 0 0 (mm_A o ad)) (F0 m 0 ls []) := by
  unfold M_next at hf
  refine lv_aload_n C.1 C.2.1 (dd_at td_next 0 rfl) rfl (lv_at hl 0 rfl) ?_
  refine mm_gI C hM 11 (dd_at td_next 1 rfl) (by decide) (by decide) (by decide) ?_
  refine lv_aload_n C.1 C.2.1 (dd_at td_next 2 rfl) rfl (lv_at hl 0 rfl) ?_
  refine mm_gI C hM 10 (dd_at td_next 3 rfl) (by decide) (by decide) (by decide) ?_
  refine lv_icmp_ge (tgt := 23) C.1 C.2.1 (dd_at td_next 4 rfl) (by decide) (fun c1 => ?_) (fun c1 => ?_)
  · replace hf := fc_of_t hf c1
    refine lv_iconst (v := (-1 : Int32)) C.1 C.2.1 (dd_at td_next 11 rfl) (by decide) ?_
    exact mm_ri C hM (dd_at td_next 12 rfl) hf
  · replace hf := fc_of_f hf c1
    refine lv_aload_n C.1 C.2.1 (dd_at td_next 5 rfl) rfl (lv_at hl 0 rfl) ?_
    refine mm_gA C hM 13 (dd_at td_next 6 rfl) (by decide) (by decide) (by decide) ?_
    refine lv_aload_n C.1 C.2.1 (dd_at td_next 7 rfl) rfl (lv_at hl 0 rfl) ?_
    refine mm_gI C hM 11 (dd_at td_next 8 rfl) (by decide) (by decide) (by decide) ?_
    obtain ⟨g2, hf⟩ := fc_of_gd hf
    refine mm_iald C hM 13 (dd_at td_next 9 rfl) (by decide) (by decide) (fc_of_ix g2) ?_
    refine lv_goto (tgt := 24) C.1 C.2.1 (dd_at td_next 10 rfl) (by decide) ?_
    exact mm_ri C hM (dd_at td_next 12 rfl) hf
theorem c_next (l : Launch) (D : va_G) (o : Nat) (ad : Nat → Nat) (cs : ClassId × ClassId × ClassId) (fu : Nat) (st : mm_S) : mm_Mi l D o ad cs yX12_next cX12_next 1 (some .int) 0 0 [] st (M_next fu st) := by
  intro r st' hf
  refine mm_enter (cc := cX12_next) (nL := 1) (ret := some .int) (by decide) rfl (Nat.le_of_ble_eq_true rfl) ?_
  intro p e s m args below meth c ls C hl hM
  exact w_next C fu st hf hl hM

/-! takes -/
def tb_takes : List (Nat × Instr × Nat) := [(0, .aload_n 0, 1), (1, .invokevirtual 218, 3), (4, .iload_n 1, 1), (5, .if_icmp .eq 5, 3), (8, .iconst 0, 1), (9, .ireturn, 1), (10, .aload_n 0, 1), (11, .dup, 1), (12, .getfield 44, 3), (15, .iconst 1, 1), (16, .iadd, 1), (17, .putfield 44, 3), (20, .iconst 1, 1), (21, .ireturn, 1)]
theorem td_takes : tb_takes.all (fun q => decide (decode cX12_takes q.1 = .ok (q.2.1, q.2.2))) = true := by decide +kernel
theorem hd_takes : yX12_takes.cls = RX12 ∧ yX12_takes.cls ≠ "java/lang/invoke/MethodHandle" ∧ yX12_takes.cls ≠ "java/lang/invoke/VarHandle" ∧ (parseMethodDescriptor yX12_takes.desc).map (fun d => d.parameters.length) = some 1 := by decide +kernel
theorem w_takes {p : Program} {l : Launch} {e : Env} {s : State} {m : MethodId} {args : Array Value} {below : List Frame} {meth : Method} {c : Code} {D : va_G} {o : Nat} {ad : Nat → Nat} {cs : ClassId × ClassId × ClassId} {r : Int32} {st' : mm_S} (C : mm_C p s m args meth c cX12_takes 2 (some .boolean) D cs) (fu : Nat) (x1 : Int32) (st : mm_S) (hf : M_takes fu x1 st = some (r, st')) {H : Heap} {locs : List Loc} {ls : Array Slot} (hl : lv_has ls 2 [(0, .ref o), (1, .int x1)]) (hM : mm_H D o ad cs s.heap st H locs) : W p l e (mm_R 1 20) s m args below meth c H locs 0 0 (MQ below (mm_Qi D o ad cs r st') args s 0 0 (mm_A o ad)) (F0 m 0 ls []) := by
  unfold M_takes at hf
  refine lv_aload_n C.1 C.2.1 (dd_at td_takes 0 rfl) rfl (lv_at hl 0 rfl) ?_
  obtain ⟨r3, st1, hx2, hf⟩ := fc_of_bn hf
  refine mm_ci (As := []) (rest := []) (n := 0) C hM (c_next l D o ad cs fu st) (List.mem_of_getElem? (i := 33) rfl) (dd_at td_takes 1 rfl) hx2 hl.1 hd_next ⟨Nat.le_of_ble_eq_true rfl, Nat.le_of_ble_eq_true rfl⟩ rfl rfl (Nat.le_of_ble_eq_true rfl) ⟨Nat.le_refl 0, Nat.le_refl 0⟩ (fun H locs hM => ?_)
  refine lv_iload_n C.1 C.2.1 (dd_at td_takes 2 rfl) rfl (lv_at hl 1 rfl) ?_
  refine lv_icmp_eq (tgt := 10) C.1 C.2.1 (dd_at td_takes 3 rfl) (by decide) (fun c4 => ?_) (fun c4 => ?_)
  · replace hf := fc_of_t hf c4
    refine lv_aload_n C.1 C.2.1 (dd_at td_takes 6 rfl) rfl (lv_at hl 0 rfl) ?_
    refine lv_dup C.1 C.2.1 (dd_at td_takes 7 rfl) rfl ?_
    refine mm_gI C hM 11 (dd_at td_takes 8 rfl) (by decide) (by decide) (by decide) ?_
    refine lv_iconst (v := (1 : Int32)) C.1 C.2.1 (dd_at td_takes 9 rfl) (by decide) ?_
    refine lv_iadd C.1 C.2.1 (dd_at td_takes 10 rfl) ?_
    refine mm_pI C hM 11 (dd_at td_takes 11 rfl) (by decide) (by decide) (by decide) rfl rfl (fun st5 H locs est5 hM => ?_)
    replace hf := fc_of_nm hf st5 est5
    refine lv_iconst (v := (1 : Int32)) C.1 C.2.1 (dd_at td_takes 12 rfl) (by decide) ?_
    exact mm_rz C hM (dd_at td_takes 13 rfl) rfl hf
  · replace hf := fc_of_f hf c4
    refine lv_iconst (v := (0 : Int32)) C.1 C.2.1 (dd_at td_takes 4 rfl) (by decide) ?_
    exact mm_rz C hM (dd_at td_takes 5 rfl) rfl hf
theorem c_takes (l : Launch) (D : va_G) (o : Nat) (ad : Nat → Nat) (cs : ClassId × ClassId × ClassId) (fu : Nat) (x1 : Int32) (st : mm_S) : mm_Mi l D o ad cs yX12_takes cX12_takes 2 (some .boolean) 1 20 [.int x1] st (M_takes fu x1 st) := by
  intro r st' hf
  refine mm_enter (cc := cX12_takes) (nL := 2) (ret := some .boolean) (by decide) rfl (Nat.le_of_ble_eq_true rfl) ?_
  intro p e s m args below meth c ls C hl hM
  exact w_takes C fu x1 st hf hl hM

/-! takesWord -/
def tb_takesWord : List (Nat × Instr × Nat) := [(0, .iconst 0, 1), (1, .istore_n 3, 1), (2, .iload_n 3, 1), (3, .iload_n 2, 1), (4, .if_icmp .ge 26, 3), (7, .aload_n 0, 1), (8, .aload_n 0, 1), (9, .getfield 83, 3), (12, .iload_n 1, 1), (13, .iload_n 3, 1), (14, .iadd, 1), (15, .iaload, 1), (16, .invokevirtual 222, 3), (19, .ifCond .ne 5, 3), (22, .iconst 0, 1), (23, .ireturn, 1), (24, .iinc 3 1, 3), (27, .goto (-25), 3), (30, .aload_n 0, 1), (31, .bipush 32, 2), (33, .invokevirtual 222, 3), (36, .ireturn, 1)]
theorem td_takesWord : tb_takesWord.all (fun q => decide (decode cX12_takesWord q.1 = .ok (q.2.1, q.2.2))) = true := by decide +kernel
theorem hd_takesWord : yX12_takesWord.cls = RX12 ∧ yX12_takesWord.cls ≠ "java/lang/invoke/MethodHandle" ∧ yX12_takesWord.cls ≠ "java/lang/invoke/VarHandle" ∧ (parseMethodDescriptor yX12_takesWord.desc).map (fun d => d.parameters.length) = some 2 := by decide +kernel
theorem w_takesWord_b2F {p : Program} {l : Launch} {e : Env} {s : State} {m : MethodId} {args : Array Value} {below : List Frame} {meth : Method} {c : Code} {D : va_G} {o : Nat} {ad : Nat → Nat} {cs : ClassId × ClassId × ClassId} {r : Int32} {st' : mm_S} (C : mm_C p s m args meth c cX12_takesWord 4 (some .boolean) D cs) (fu : Nat) (K2 : Int32 → Int32 → Int32 → mm_S → Option (Int32 × mm_S)) (hK2 : ∀ (x1 : Int32) (x2 : Int32) (x3 : Int32) (st : mm_S) (H : Heap) (locs : List Loc) (ls : Array Slot), K2 x1 x2 x3 st = some (r, st') → lv_has ls 4 [(0, .ref o), (1, .int x1), (2, .int x2), (3, .int x3)] → mm_H D o ad cs s.heap st H locs → W p l e (mm_R 2 41) s m args below meth c H locs 0 0 (MQ below (mm_Qi D o ad cs r st') args s 0 0 (mm_A o ad)) (F0 m 2 ls [])) (x1 : Int32) (x2 : Int32) (x3 : Int32) (st : mm_S) (hf : M_takesWord_b2F fu K2 x1 x2 x3 st = some (r, st')) {H : Heap} {locs : List Loc} {ls : Array Slot} (hl : lv_has ls 4 [(0, .ref o), (1, .int x1), (2, .int x2), (3, .int x3)]) (hM : mm_H D o ad cs s.heap st H locs) : W p l e (mm_R 2 41) s m args below meth c H locs 0 0 (MQ below (mm_Qi D o ad cs r st') args s 0 0 (mm_A o ad)) (F0 m 2 ls []) := by
  unfold M_takesWord_b2F at hf
  refine lv_iload_n C.1 C.2.1 (dd_at td_takesWord 2 rfl) rfl (lv_at hl 3 rfl) ?_
  refine lv_iload_n C.1 C.2.1 (dd_at td_takesWord 3 rfl) rfl (lv_at hl 2 rfl) ?_
  refine lv_icmp_ge (tgt := 30) C.1 C.2.1 (dd_at td_takesWord 4 rfl) (by decide) (fun c1 => ?_) (fun c1 => ?_)
  · replace hf := fc_of_t hf c1
    refine lv_aload_n C.1 C.2.1 (dd_at td_takesWord 18 rfl) rfl (lv_at hl 0 rfl) ?_
    refine lv_bipush (v := (32 : Int32)) C.1 C.2.1 (dd_at td_takesWord 19 rfl) (by decide) ?_
    obtain ⟨r4, st2, hx3, hf⟩ := fc_of_bn hf
    refine mm_ci (As := [.int (32 : Int32)]) (rest := []) (n := 1) C hM (c_takes l D o ad cs fu (32 : Int32) st) (List.mem_of_getElem? (i := 38) rfl) (dd_at td_takesWord 20 rfl) hx3 hl.1 hd_takes ⟨Nat.le_of_ble_eq_true rfl, Nat.le_of_ble_eq_true rfl⟩ rfl rfl (Nat.le_of_ble_eq_true rfl) ⟨Nat.le_refl 0, Nat.le_refl 0⟩ (fun H locs hM => ?_)
    obtain ⟨g5, hf⟩ := fc_of_gd hf
    exact mm_rz C hM (dd_at td_takesWord 21 rfl) (fc_of_zb g5) hf
  · replace hf := fc_of_f hf c1
    refine lv_aload_n C.1 C.2.1 (dd_at td_takesWord 5 rfl) rfl (lv_at hl 0 rfl) ?_
    refine lv_aload_n C.1 C.2.1 (dd_at td_takesWord 6 rfl) rfl (lv_at hl 0 rfl) ?_
    refine mm_gA C hM 24 (dd_at td_takesWord 7 rfl) (by decide) (by decide) (by decide) ?_
    refine lv_iload_n C.1 C.2.1 (dd_at td_takesWord 8 rfl) rfl (lv_at hl 1 rfl) ?_
    refine lv_iload_n C.1 C.2.1 (dd_at td_takesWord 9 rfl) rfl (lv_at hl 3 rfl) ?_
    refine lv_iadd C.1 C.2.1 (dd_at td_takesWord 10 rfl) ?_
    obtain ⟨g6, hf⟩ := fc_of_gd hf
    refine mm_iald C hM 24 (dd_at td_takesWord 11 rfl) (by decide) (by decide) (fc_of_ix g6) ?_
    obtain ⟨r9, st7, hx8, hf⟩ := fc_of_bn hf
    refine mm_ci (As := [.int (mm_G st 24 (x1 + x3).toNatClampNeg)]) (rest := []) (n := 1) C hM (c_takes l D o ad cs fu (mm_G st 24 (x1 + x3).toNatClampNeg) st) (List.mem_of_getElem? (i := 38) rfl) (dd_at td_takesWord 12 rfl) hx8 hl.1 hd_takes ⟨Nat.le_of_ble_eq_true rfl, Nat.le_of_ble_eq_true rfl⟩ rfl rfl (Nat.le_of_ble_eq_true rfl) ⟨Nat.le_refl 0, Nat.le_refl 0⟩ (fun H locs hM => ?_)
    refine lv_if_ne (tgt := 24) C.1 C.2.1 (dd_at td_takesWord 13 rfl) (by decide) (fun c10 => ?_) (fun c10 => ?_)
    · replace hf := fc_of_f hf c10
      obtain ⟨v11, ev11⟩ : ∃ y : Int32, y = x3 + (1 : Int32) := ⟨_, rfl⟩
      replace hf := fc_of_nm hf v11 ev11
      refine lv_iinc (v := v11) (lv' := [(3, .int v11), (0, .ref o), (1, .int x1), (2, .int x2)]) C.1 C.2.1 (dd_at td_takesWord 16 rfl) hl (k := 3) rfl (by rw [ev11]; rfl) (by decide) rfl (fun ls hl => ?_)
      refine lv_goto (tgt := 2) C.1 C.2.1 (dd_at td_takesWord 17 rfl) (by decide) ?_
      exact hK2 x1 x2 v11 st7 _ _ _ hf (lv_sub hl [1, 2, 3, 0] rfl) hM
    · replace hf := fc_of_t hf c10
      refine lv_iconst (v := (0 : Int32)) C.1 C.2.1 (dd_at td_takesWord 14 rfl) (by decide) ?_
      exact mm_rz C hM (dd_at td_takesWord 15 rfl) rfl hf
theorem w_takesWord_b2 {p : Program} {l : Launch} {e : Env} {s : State} {m : MethodId} {args : Array Value} {below : List Frame} {meth : Method} {c : Code} {D : va_G} {o : Nat} {ad : Nat → Nat} {cs : ClassId × ClassId × ClassId} {r : Int32} {st' : mm_S} (C : mm_C p s m args meth c cX12_takesWord 4 (some .boolean) D cs) (fu : Nat) (n : Nat) : ∀ (x1 : Int32) (x2 : Int32) (x3 : Int32) (st : mm_S), M_takesWord_b2 fu n x1 x2 x3 st = some (r, st') → ∀ (H : Heap) (locs : List Loc) (ls : Array Slot), lv_has ls 4 [(0, .ref o), (1, .int x1), (2, .int x2), (3, .int x3)] → mm_H D o ad cs s.heap st H locs → W p l e (mm_R 2 41) s m args below meth c H locs 0 0 (MQ below (mm_Qi D o ad cs r st') args s 0 0 (mm_A o ad)) (F0 m 2 ls []) := by
  induction n with
  | zero => exact fun _ _ _ _ hf => fc_no hf
  | succ n ih =>
    intro x1 x2 x3 st hf H locs ls hl hM
    exact w_takesWord_b2F C fu (fun x1 x2 x3 st => M_takesWord_b2 fu n x1 x2 x3 st) (fun x1 x2 x3 st H locs ls hf hl hM => ih x1 x2 x3 st hf H locs ls hl hM) x1 x2 x3 st hf hl hM
theorem w_takesWord {p : Program} {l : Launch} {e : Env} {s : State} {m : MethodId} {args : Array Value} {below : List Frame} {meth : Method} {c : Code} {D : va_G} {o : Nat} {ad : Nat → Nat} {cs : ClassId × ClassId × ClassId} {r : Int32} {st' : mm_S} (C : mm_C p s m args meth c cX12_takesWord 4 (some .boolean) D cs) (fu : Nat) (x1 : Int32) (x2 : Int32) (st : mm_S) (hf : M_takesWord fu x1 x2 st = some (r, st')) {H : Heap} {locs : List Loc} {ls : Array Slot} (hl : lv_has ls 4 [(0, .ref o), (1, .int x1), (2, .int x2)]) (hM : mm_H D o ad cs s.heap st H locs) : W p l e (mm_R 2 41) s m args below meth c H locs 0 0 (MQ below (mm_Qi D o ad cs r st') args s 0 0 (mm_A o ad)) (F0 m 0 ls []) := by
  unfold M_takesWord at hf
  refine lv_iconst (v := (0 : Int32)) C.1 C.2.1 (dd_at td_takesWord 0 rfl) (by decide) ?_
  refine lv_istore_n (lv' := [(3, .int (0 : Int32)), (0, .ref o), (1, .int x1), (2, .int x2)]) C.1 C.2.1 (dd_at td_takesWord 1 rfl) rfl hl (by decide) rfl (fun ls hl => ?_)
  exact w_takesWord_b2 C fu fu x1 x2 (0 : Int32) st hf _ _ _ (lv_sub hl [1, 2, 3, 0] rfl) hM
theorem c_takesWord (l : Launch) (D : va_G) (o : Nat) (ad : Nat → Nat) (cs : ClassId × ClassId × ClassId) (fu : Nat) (x1 : Int32) (x2 : Int32) (st : mm_S) : mm_Mi l D o ad cs yX12_takesWord cX12_takesWord 4 (some .boolean) 2 41 [.int x1, .int x2] st (M_takesWord fu x1 x2 st) := by
  intro r st' hf
  refine mm_enter (cc := cX12_takesWord) (nL := 4) (ret := some .boolean) (by decide) rfl (Nat.le_of_ble_eq_true rfl) ?_
  intro p e s m args below meth c ls C hl hM
  exact w_takesWord C fu x1 x2 st hf hl hM

/-! isDigit -/
def tb_isDigit : List (Nat × Instr × Nat) := [(0, .aload_n 0, 1), (1, .aload_n 0, 1), (2, .invokevirtual 218, 3), (5, .bipush 48, 2), (7, .bipush 57, 2), (9, .invokevirtual 207, 3), (12, .ireturn, 1)]
theorem td_isDigit : tb_isDigit.all (fun q => decide (decode cX12_isDigit q.1 = .ok (q.2.1, q.2.2))) = true := by decide +kernel
theorem hd_isDigit : yX12_isDigit.cls = RX12 ∧ yX12_isDigit.cls ≠ "java/lang/invoke/MethodHandle" ∧ yX12_isDigit.cls ≠ "java/lang/invoke/VarHandle" ∧ (parseMethodDescriptor yX12_isDigit.desc).map (fun d => d.parameters.length) = some 0 := by decide +kernel
theorem w_isDigit {p : Program} {l : Launch} {e : Env} {s : State} {m : MethodId} {args : Array Value} {below : List Frame} {meth : Method} {c : Code} {D : va_G} {o : Nat} {ad : Nat → Nat} {cs : ClassId × ClassId × ClassId} {r : Int32} {st' : mm_S} (C : mm_C p s m args meth c cX12_isDigit 1 (some .boolean) D cs) (fu : Nat) (st : mm_S) (hf : M_isDigit fu st = some (r, st')) {H : Heap} {locs : List Loc} {ls : Array Slot} (hl : lv_has ls 1 [(0, .ref o)]) (hM : mm_H D o ad cs s.heap st H locs) : W p l e (mm_R 1 23) s m args below meth c H locs 0 0 (MQ below (mm_Qi D o ad cs r st') args s 0 0 (mm_A o ad)) (F0 m 0 ls []) := by
  unfold M_isDigit at hf
  refine lv_aload_n C.1 C.2.1 (dd_at td_isDigit 0 rfl) rfl (lv_at hl 0 rfl) ?_
  refine lv_aload_n C.1 C.2.1 (dd_at td_isDigit 1 rfl) rfl (lv_at hl 0 rfl) ?_
  obtain ⟨r3, st1, hx2, hf⟩ := fc_of_bn hf
  refine mm_ci (As := []) (rest := [.ref o]) (n := 0) C hM (c_next l D o ad cs fu st) (List.mem_of_getElem? (i := 33) rfl) (dd_at td_isDigit 2 rfl) hx2 hl.1 hd_next ⟨Nat.le_of_ble_eq_true rfl, Nat.le_of_ble_eq_true rfl⟩ rfl rfl (Nat.le_of_ble_eq_true rfl) ⟨Nat.le_refl 0, Nat.le_refl 0⟩ (fun H locs hM => ?_)
  refine lv_bipush (v := (48 : Int32)) C.1 C.2.1 (dd_at td_isDigit 3 rfl) (by decide) ?_
  refine lv_bipush (v := (57 : Int32)) C.1 C.2.1 (dd_at td_isDigit 4 rfl) (by decide) ?_
  obtain ⟨r6, st4, hx5, hf⟩ := fc_of_bn hf
  refine mm_ci (As := [.int r3, .int (48 : Int32), .int (57 : Int32)]) (rest := []) (n := 3) C hM (c_in l D o ad cs fu r3 (48 : Int32) (57 : Int32) st1) (List.mem_of_getElem? (i := 18) rfl) (dd_at td_isDigit 5 rfl) hx5 hl.1 hd_in ⟨Nat.le_of_ble_eq_true rfl, Nat.le_of_ble_eq_true rfl⟩ rfl rfl (Nat.le_of_ble_eq_true rfl) ⟨Nat.le_refl 0, Nat.le_refl 0⟩ (fun H locs hM => ?_)
  obtain ⟨g7, hf⟩ := fc_of_gd hf
  exact mm_rz C hM (dd_at td_isDigit 6 rfl) (fc_of_zb g7) hf
theorem c_isDigit (l : Launch) (D : va_G) (o : Nat) (ad : Nat → Nat) (cs : ClassId × ClassId × ClassId) (fu : Nat) (st : mm_S) : mm_Mi l D o ad cs yX12_isDigit cX12_isDigit 1 (some .boolean) 1 23 [] st (M_isDigit fu st) := by
  intro r st' hf
  refine mm_enter (cc := cX12_isDigit) (nL := 1) (ret := some .boolean) (by decide) rfl (Nat.le_of_ble_eq_true rfl) ?_
  intro p e s m args below meth c ls C hl hM
  exact w_isDigit C fu st hf hl hM

/-! takesNumber -/
def tb_takesNumber : List (Nat × Instr × Nat) := [(0, .aload_n 0, 1), (1, .invokevirtual 225, 3), (4, .ifCond .ne 5, 3), (7, .iconst 0, 1), (8, .ireturn, 1), (9, .aload_n 0, 1), (10, .iconst 0, 1), (11, .putfield 47, 3), (14, .iconst 0, 1), (15, .istore_n 1, 1), (16, .iload_n 1, 1), (17, .iconst 2, 1), (18, .if_icmp .ge 45, 3), (21, .aload_n 0, 1), (22, .invokevirtual 225, 3), (25, .ifCond .eq 38, 3), (28, .aload_n 0, 1), (29, .bipush 10, 2), (31, .aload_n 0, 1), (32, .getfield 47, 3), (35, .imul, 1), (36, .aload_n 0, 1), (37, .invokevirtual 218, 3), (40, .iadd, 1), (41, .bipush 48, 2), (43, .isub, 1), (44, .putfield 47, 3), (47, .aload_n 0, 1), (48, .dup, 1), (49, .getfield 44, 3), (52, .iconst 1, 1), (53, .iadd, 1), (54, .putfield 44, 3), (57, .iinc 1 1, 3), (60, .goto (-44), 3), (63, .iconst 1, 1), (64, .ireturn, 1)]
theorem td_takesNumber : tb_takesNumber.all (fun q => decide (decode cX12_takesNumber q.1 = .ok (q.2.1, q.2.2))) = true := by decide +kernel
theorem hd_takesNumber : yX12_takesNumber.cls = RX12 ∧ yX12_takesNumber.cls ≠ "java/lang/invoke/MethodHandle" ∧ yX12_takesNumber.cls ≠ "java/lang/invoke/VarHandle" ∧ (parseMethodDescriptor yX12_takesNumber.desc).map (fun d => d.parameters.length) = some 0 := by decide +kernel
theorem w_takesNumber_b16F {p : Program} {l : Launch} {e : Env} {s : State} {m : MethodId} {args : Array Value} {below : List Frame} {meth : Method} {c : Code} {D : va_G} {o : Nat} {ad : Nat → Nat} {cs : ClassId × ClassId × ClassId} {r : Int32} {st' : mm_S} (C : mm_C p s m args meth c cX12_takesNumber 2 (some .boolean) D cs) (fu : Nat) (K16 : Int32 → mm_S → Option (Int32 × mm_S)) (hK16 : ∀ (x1 : Int32) (st : mm_S) (H : Heap) (locs : List Loc) (ls : Array Slot), K16 x1 st = some (r, st') → lv_has ls 2 [(0, .ref o), (1, .int x1)] → mm_H D o ad cs s.heap st H locs → W p l e (mm_R 2 43) s m args below meth c H locs 0 0 (MQ below (mm_Qi D o ad cs r st') args s 0 0 (mm_A o ad)) (F0 m 16 ls [])) (x1 : Int32) (st : mm_S) (hf : M_takesNumber_b16F fu K16 x1 st = some (r, st')) {H : Heap} {locs : List Loc} {ls : Array Slot} (hl : lv_has ls 2 [(0, .ref o), (1, .int x1)]) (hM : mm_H D o ad cs s.heap st H locs) : W p l e (mm_R 2 43) s m args below meth c H locs 0 0 (MQ below (mm_Qi D o ad cs r st') args s 0 0 (mm_A o ad)) (F0 m 16 ls []) := by
  unfold M_takesNumber_b16F at hf
  refine lv_iload_n C.1 C.2.1 (dd_at td_takesNumber 10 rfl) rfl (lv_at hl 1 rfl) ?_
  refine lv_iconst (v := (2 : Int32)) C.1 C.2.1 (dd_at td_takesNumber 11 rfl) (by decide) ?_
  refine lv_icmp_ge (tgt := 63) C.1 C.2.1 (dd_at td_takesNumber 12 rfl) (by decide) (fun c6 => ?_) (fun c6 => ?_)
  · replace hf := fc_of_t hf c6
    refine lv_iconst (v := (1 : Int32)) C.1 C.2.1 (dd_at td_takesNumber 35 rfl) (by decide) ?_
    exact mm_rz C hM (dd_at td_takesNumber 36 rfl) rfl hf
  · replace hf := fc_of_f hf c6
    refine lv_aload_n C.1 C.2.1 (dd_at td_takesNumber 13 rfl) rfl (lv_at hl 0 rfl) ?_
    obtain ⟨r9, st7, hx8, hf⟩ := fc_of_bn hf
    refine mm_ci (As := []) (rest := []) (n := 0) C hM (c_isDigit l D o ad cs fu st) (List.mem_of_getElem? (i := 21) rfl) (dd_at td_takesNumber 14 rfl) hx8 hl.1 hd_isDigit ⟨Nat.le_of_ble_eq_true rfl, Nat.le_of_ble_eq_true rfl⟩ rfl rfl (Nat.le_of_ble_eq_true rfl) ⟨Nat.le_refl 0, Nat.le_refl 0⟩ (fun H locs hM => ?_)
    refine lv_if_eq (tgt := 63) C.1 C.2.1 (dd_at td_takesNumber 15 rfl) (by decide) (fun c10 => ?_) (fun c10 => ?_)
    · replace hf := fc_of_t hf c10
      refine lv_iconst (v := (1 : Int32)) C.1 C.2.1 (dd_at td_takesNumber 35 rfl) (by decide) ?_
      exact mm_rz C hM (dd_at td_takesNumber 36 rfl) rfl hf
    · replace hf := fc_of_f hf c10
      refine lv_aload_n C.1 C.2.1 (dd_at td_takesNumber 16 rfl) rfl (lv_at hl 0 rfl) ?_
      refine lv_bipush (v := (10 : Int32)) C.1 C.2.1 (dd_at td_takesNumber 17 rfl) (by decide) ?_
      refine lv_aload_n C.1 C.2.1 (dd_at td_takesNumber 18 rfl) rfl (lv_at hl 0 rfl) ?_
      refine mm_gI C hM 12 (dd_at td_takesNumber 19 rfl) (by decide) (by decide) (by decide) ?_
      refine lv_imul C.1 C.2.1 (dd_at td_takesNumber 20 rfl) ?_
      refine lv_aload_n C.1 C.2.1 (dd_at td_takesNumber 21 rfl) rfl (lv_at hl 0 rfl) ?_
      obtain ⟨r13, st11, hx12, hf⟩ := fc_of_bn hf
      refine mm_ci (As := []) (rest := [.int ((10 : Int32) * (mm_I st7 12)), .ref o]) (n := 0) C hM (c_next l D o ad cs fu st7) (List.mem_of_getElem? (i := 33) rfl) (dd_at td_takesNumber 22 rfl) hx12 hl.1 hd_next ⟨Nat.le_of_ble_eq_true rfl, Nat.le_of_ble_eq_true rfl⟩ rfl rfl (Nat.le_of_ble_eq_true rfl) ⟨Nat.le_refl 0, Nat.le_refl 0⟩ (fun H locs hM => ?_)
      refine lv_iadd C.1 C.2.1 (dd_at td_takesNumber 23 rfl) ?_
      refine lv_bipush (v := (48 : Int32)) C.1 C.2.1 (dd_at td_takesNumber 24 rfl) (by decide) ?_
      refine lv_isub C.1 C.2.1 (dd_at td_takesNumber 25 rfl) ?_
      refine mm_pI C hM 12 (dd_at td_takesNumber 26 rfl) (by decide) (by decide) (by decide) rfl rfl (fun st14 H locs est14 hM => ?_)
      replace hf := fc_of_nm hf st14 est14
      refine lv_aload_n C.1 C.2.1 (dd_at td_takesNumber 27 rfl) rfl (lv_at hl 0 rfl) ?_
      refine lv_dup C.1 C.2.1 (dd_at td_takesNumber 28 rfl) rfl ?_
      refine mm_gI C hM 11 (dd_at td_takesNumber 29 rfl) (by decide) (by decide) (by decide) ?_
      refine lv_iconst (v := (1 : Int32)) C.1 C.2.1 (dd_at td_takesNumber 30 rfl) (by decide) ?_
      refine lv_iadd C.1 C.2.1 (dd_at td_takesNumber 31 rfl) ?_
      refine mm_pI C hM 11 (dd_at td_takesNumber 32 rfl) (by decide) (by decide) (by decide) rfl rfl (fun st15 H locs est15 hM => ?_)
      replace hf := fc_of_nm hf st15 est15
      obtain ⟨v16, ev16⟩ : ∃ y : Int32, y = x1 + (1 : Int32) := ⟨_, rfl⟩
      replace hf := fc_of_nm hf v16 ev16
      refine lv_iinc (v := v16) (lv' := [(1, .int v16), (0, .ref o)]) C.1 C.2.1 (dd_at td_takesNumber 33 rfl) hl (k := 1) rfl (by rw [ev16]; rfl) (by decide) rfl (fun ls hl => ?_)
      refine lv_goto (tgt := 16) C.1 C.2.1 (dd_at td_takesNumber 34 rfl) (by decide) ?_
      exact hK16 v16 st15 _ _ _ hf (lv_sub hl [1, 0] rfl) hM
theorem w_takesNumber_b16 {p : Program} {l : Launch} {e : Env} {s : State} {m : MethodId} {args : Array Value} {below : List Frame} {meth : Method} {c : Code} {D : va_G} {o : Nat} {ad : Nat → Nat} {cs : ClassId × ClassId × ClassId} {r : Int32} {st' : mm_S} (C : mm_C p s m args meth c cX12_takesNumber 2 (some .boolean) D cs) (fu : Nat) (n : Nat) : ∀ (x1 : Int32) (st : mm_S), M_takesNumber_b16 fu n x1 st = some (r, st') → ∀ (H : Heap) (locs : List Loc) (ls : Array Slot), lv_has ls 2 [(0, .ref o), (1, .int x1)] → mm_H D o ad cs s.heap st H locs → W p l e (mm_R 2 43) s m args below meth c H locs 0 0 (MQ below (mm_Qi D o ad cs r st') args s 0 0 (mm_A o ad)) (F0 m 16 ls []) := by
  induction n with
  | zero => exact fun _ _ hf => fc_no hf
  | succ n ih =>
    intro x1 st hf H locs ls hl hM
    exact w_takesNumber_b16F C fu (fun x1 st => M_takesNumber_b16 fu n x1 st) (fun x1 st H locs ls hf hl hM => ih x1 st hf H locs ls hl hM) x1 st hf hl hM
theorem w_takesNumber {p : Program} {l : Launch} {e : Env} {s : State} {m : MethodId} {args : Array Value} {below : List Frame} {meth : Method} {c : Code} {D : va_G} {o : Nat} {ad : Nat → Nat} {cs : ClassId × ClassId × ClassId} {r : Int32} {st' : mm_S} (C : mm_C p s m args meth c cX12_takesNumber 2 (some .boolean) D cs) (fu : Nat) (st : mm_S) (hf : M_takesNumber fu st = some (r, st')) {H : Heap} {locs : List Loc} {ls : Array Slot} (hl : lv_has ls 2 [(0, .ref o)]) (hM : mm_H D o ad cs s.heap st H locs) : W p l e (mm_R 2 43) s m args below meth c H locs 0 0 (MQ below (mm_Qi D o ad cs r st') args s 0 0 (mm_A o ad)) (F0 m 0 ls []) := by
  unfold M_takesNumber at hf
  refine lv_aload_n C.1 C.2.1 (dd_at td_takesNumber 0 rfl) rfl (lv_at hl 0 rfl) ?_
  obtain ⟨r3, st1, hx2, hf⟩ := fc_of_bn hf
  refine mm_ci (As := []) (rest := []) (n := 0) C hM (c_isDigit l D o ad cs fu st) (List.mem_of_getElem? (i := 21) rfl) (dd_at td_takesNumber 1 rfl) hx2 hl.1 hd_isDigit ⟨Nat.le_of_ble_eq_true rfl, Nat.le_of_ble_eq_true rfl⟩ rfl rfl (Nat.le_of_ble_eq_true rfl) ⟨Nat.le_refl 0, Nat.le_refl 0⟩ (fun H locs hM => ?_)
  refine lv_if_ne (tgt := 9) C.1 C.2.1 (dd_at td_takesNumber 2 rfl) (by decide) (fun c4 => ?_) (fun c4 => ?_)
  · replace hf := fc_of_f hf c4
    refine lv_aload_n C.1 C.2.1 (dd_at td_takesNumber 5 rfl) rfl (lv_at hl 0 rfl) ?_
    refine lv_iconst (v := (0 : Int32)) C.1 C.2.1 (dd_at td_takesNumber 6 rfl) (by decide) ?_
    refine mm_pI C hM 12 (dd_at td_takesNumber 7 rfl) (by decide) (by decide) (by decide) rfl rfl (fun st5 H locs est5 hM => ?_)
    replace hf := fc_of_nm hf st5 est5
    refine lv_iconst (v := (0 : Int32)) C.1 C.2.1 (dd_at td_takesNumber 8 rfl) (by decide) ?_
    refine lv_istore_n (lv' := [(1, .int (0 : Int32)), (0, .ref o)]) C.1 C.2.1 (dd_at td_takesNumber 9 rfl) rfl hl (by decide) rfl (fun ls hl => ?_)
    exact w_takesNumber_b16 C fu fu (0 : Int32) st5 hf _ _ _ (lv_sub hl [1, 0] rfl) hM
  · replace hf := fc_of_t hf c4
    refine lv_iconst (v := (0 : Int32)) C.1 C.2.1 (dd_at td_takesNumber 3 rfl) (by decide) ?_
    exact mm_rz C hM (dd_at td_takesNumber 4 rfl) rfl hf
theorem c_takesNumber (l : Launch) (D : va_G) (o : Nat) (ad : Nat → Nat) (cs : ClassId × ClassId × ClassId) (fu : Nat) (st : mm_S) : mm_Mi l D o ad cs yX12_takesNumber cX12_takesNumber 2 (some .boolean) 2 43 [] st (M_takesNumber fu st) := by
  intro r st' hf
  refine mm_enter (cc := cX12_takesNumber) (nL := 2) (ret := some .boolean) (by decide) rfl (Nat.le_of_ble_eq_true rfl) ?_
  intro p e s m args below meth c ls C hl hM
  exact w_takesNumber C fu st hf hl hM

/-! emits -/
def tb_emits : List (Nat × Instr × Nat) := [(0, .aload_n 0, 1), (1, .getfield 68, 3), (4, .aload_n 0, 1), (5, .getfield 74, 3), (8, .iload_n 1, 1), (9, .iastore, 1), (10, .aload_n 0, 1), (11, .dup, 1), (12, .getfield 74, 3), (15, .iconst 1, 1), (16, .iadd, 1), (17, .putfield 74, 3), (20, .return_, 1)]
theorem td_emits : tb_emits.all (fun q => decide (decode cX12_emits q.1 = .ok (q.2.1, q.2.2))) = true := by decide +kernel
theorem hd_emits : yX12_emits.cls = RX12 ∧ yX12_emits.cls ≠ "java/lang/invoke/MethodHandle" ∧ yX12_emits.cls ≠ "java/lang/invoke/VarHandle" ∧ (parseMethodDescriptor yX12_emits.desc).map (fun d => d.parameters.length) = some 1 := by decide +kernel
theorem w_emits {p : Program} {l : Launch} {e : Env} {s : State} {m : MethodId} {args : Array Value} {below : List Frame} {meth : Method} {c : Code} {D : va_G} {o : Nat} {ad : Nat → Nat} {cs : ClassId × ClassId × ClassId} {st' : mm_S} (C : mm_C p s m args meth c cX12_emits 2 (none) D cs) (fu : Nat) (x1 : Int32) (st : mm_S) (hf : M_emits fu x1 st = some st') {H : Heap} {locs : List Loc} {ls : Array Slot} (hl : lv_has ls 2 [(0, .ref o), (1, .int x1)]) (hM : mm_H D o ad cs s.heap st H locs) : W p l e (mm_R 0 0) s m args below meth c H locs 0 0 (MQ below (mm_Qv D o ad cs st') args s 0 0 (mm_A o ad)) (F0 m 0 ls []) := by
  unfold M_emits at hf
  refine lv_aload_n C.1 C.2.1 (dd_at td_emits 0 rfl) rfl (lv_at hl 0 rfl) ?_
  refine mm_gA C hM 19 (dd_at td_emits 1 rfl) (by decide) (by decide) (by decide) ?_
  refine lv_aload_n C.1 C.2.1 (dd_at td_emits 2 rfl) rfl (lv_at hl 0 rfl) ?_
  refine mm_gI C hM 21 (dd_at td_emits 3 rfl) (by decide) (by decide) (by decide) ?_
  refine lv_iload_n C.1 C.2.1 (dd_at td_emits 4 rfl) rfl (lv_at hl 1 rfl) ?_
  obtain ⟨g1, hf⟩ := fc_of_gd hf
  refine mm_iast C hM 19 (dd_at td_emits 5 rfl) (by decide) (by decide) (fc_of_ix g1) (fun st2 H locs est2 hM => ?_)
  replace hf := fc_of_nm hf st2 est2
  refine lv_aload_n C.1 C.2.1 (dd_at td_emits 6 rfl) rfl (lv_at hl 0 rfl) ?_
  refine lv_dup C.1 C.2.1 (dd_at td_emits 7 rfl) rfl ?_
  refine mm_gI C hM 21 (dd_at td_emits 8 rfl) (by decide) (by decide) (by decide) ?_
  refine lv_iconst (v := (1 : Int32)) C.1 C.2.1 (dd_at td_emits 9 rfl) (by decide) ?_
  refine lv_iadd C.1 C.2.1 (dd_at td_emits 10 rfl) ?_
  refine mm_pI C hM 21 (dd_at td_emits 11 rfl) (by decide) (by decide) (by decide) rfl rfl (fun st3 H locs est3 hM => ?_)
  replace hf := fc_of_nm hf st3 est3
  exact mm_rv C hM (dd_at td_emits 12 rfl) hf
theorem c_emits (l : Launch) (D : va_G) (o : Nat) (ad : Nat → Nat) (cs : ClassId × ClassId × ClassId) (fu : Nat) (x1 : Int32) (st : mm_S) : mm_Mv l D o ad cs yX12_emits cX12_emits 2 (none) 0 0 [.int x1] st (M_emits fu x1 st) := by
  intro st' hf
  refine mm_enter (cc := cX12_emits) (nL := 2) (ret := none) (by decide) rfl (Nat.le_of_ble_eq_true rfl) ?_
  intro p e s m args below meth c ls C hl hM
  exact w_emits C fu x1 st hf hl hM

/-! whole -/
def tb_whole : List (Nat × Instr × Nat) := [(0, .aload_n 0, 1), (1, .getfield 77, 3), (4, .ifCond .le 48, 3), (7, .aload_n 0, 1), (8, .getfield 71, 3), (11, .aload_n 0, 1), (12, .getfield 77, 3), (15, .iconst 1, 1), (16, .isub, 1), (17, .iaload, 1), (18, .bipush 33, 2), (20, .if_icmp .ne 32, 3), (23, .aload_n 0, 1), (24, .bipush (-33), 2), (26, .invokevirtual 229, 3), (29, .aload_n 0, 1), (30, .dup, 1), (31, .getfield 77, 3), (34, .iconst 1, 1), (35, .isub, 1), (36, .putfield 77, 3), (39, .aload_n 0, 1), (40, .dup, 1), (41, .getfield 80, 3), (44, .iconst 1, 1), (45, .isub, 1), (46, .putfield 80, 3), (49, .goto (-49), 3), (52, .return_, 1)]
theorem td_whole : tb_whole.all (fun q => decide (decode cX12_whole q.1 = .ok (q.2.1, q.2.2))) = true := by decide +kernel
theorem hd_whole : yX12_whole.cls = RX12 ∧ yX12_whole.cls ≠ "java/lang/invoke/MethodHandle" ∧ yX12_whole.cls ≠ "java/lang/invoke/VarHandle" ∧ (parseMethodDescriptor yX12_whole.desc).map (fun d => d.parameters.length) = some 0 := by decide +kernel
theorem w_whole_b0F {p : Program} {l : Launch} {e : Env} {s : State} {m : MethodId} {args : Array Value} {below : List Frame} {meth : Method} {c : Code} {D : va_G} {o : Nat} {ad : Nat → Nat} {cs : ClassId × ClassId × ClassId} {st' : mm_S} (C : mm_C p s m args meth c cX12_whole 1 (none) D cs) (fu : Nat) (K0 : mm_S → Option mm_S) (hK0 : ∀ (st : mm_S) (H : Heap) (locs : List Loc) (ls : Array Slot), K0 st = some st' → lv_has ls 1 [(0, .ref o)] → mm_H D o ad cs s.heap st H locs → W p l e (mm_R 1 21) s m args below meth c H locs 0 0 (MQ below (mm_Qv D o ad cs st') args s 0 0 (mm_A o ad)) (F0 m 0 ls [])) (st : mm_S) (hf : M_whole_b0F fu K0 st = some st') {H : Heap} {locs : List Loc} {ls : Array Slot} (hl : lv_has ls 1 [(0, .ref o)]) (hM : mm_H D o ad cs s.heap st H locs) : W p l e (mm_R 1 21) s m args below meth c H locs 0 0 (MQ below (mm_Qv D o ad cs st') args s 0 0 (mm_A o ad)) (F0 m 0 ls []) := by
  unfold M_whole_b0F at hf
  refine lv_aload_n C.1 C.2.1 (dd_at td_whole 0 rfl) rfl (lv_at hl 0 rfl) ?_
  refine mm_gI C hM 22 (dd_at td_whole 1 rfl) (by decide) (by decide) (by decide) ?_
  refine lv_if_le (tgt := 52) C.1 C.2.1 (dd_at td_whole 2 rfl) (by decide) (fun c1 => ?_) (fun c1 => ?_)
  · replace hf := fc_of_t hf c1
    exact mm_rv C hM (dd_at td_whole 28 rfl) hf
  · replace hf := fc_of_f hf c1
    refine lv_aload_n C.1 C.2.1 (dd_at td_whole 3 rfl) rfl (lv_at hl 0 rfl) ?_
    refine mm_gA C hM 20 (dd_at td_whole 4 rfl) (by decide) (by decide) (by decide) ?_
    refine lv_aload_n C.1 C.2.1 (dd_at td_whole 5 rfl) rfl (lv_at hl 0 rfl) ?_
    refine mm_gI C hM 22 (dd_at td_whole 6 rfl) (by decide) (by decide) (by decide) ?_
    refine lv_iconst (v := (1 : Int32)) C.1 C.2.1 (dd_at td_whole 7 rfl) (by decide) ?_
    refine lv_isub C.1 C.2.1 (dd_at td_whole 8 rfl) ?_
    obtain ⟨g2, hf⟩ := fc_of_gd hf
    refine mm_iald C hM 20 (dd_at td_whole 9 rfl) (by decide) (by decide) (fc_of_ix g2) ?_
    refine lv_bipush (v := (33 : Int32)) C.1 C.2.1 (dd_at td_whole 10 rfl) (by decide) ?_
    refine lv_icmp_ne (tgt := 52) C.1 C.2.1 (dd_at td_whole 11 rfl) (by decide) (fun c3 => ?_) (fun c3 => ?_)
    · replace hf := fc_of_f hf c3
      exact mm_rv C hM (dd_at td_whole 28 rfl) hf
    · replace hf := fc_of_t hf c3
      refine lv_aload_n C.1 C.2.1 (dd_at td_whole 12 rfl) rfl (lv_at hl 0 rfl) ?_
      refine lv_bipush (v := (-33 : Int32)) C.1 C.2.1 (dd_at td_whole 13 rfl) (by decide) ?_
      obtain ⟨st4, hx5, hf⟩ := fc_of_bv hf
      refine mm_cv (As := [.int (-33 : Int32)]) (rest := []) (n := 1) C hM (c_emits l D o ad cs fu (-33 : Int32) st) (List.mem_of_getElem? (i := 8) rfl) (dd_at td_whole 14 rfl) hx5 hl.1 hd_emits ⟨Nat.le_of_ble_eq_true rfl, Nat.le_of_ble_eq_true rfl⟩ rfl rfl (Nat.le_of_ble_eq_true rfl) ⟨Nat.le_refl 0, Nat.le_refl 0⟩ (fun H locs hM => ?_)
      refine lv_aload_n C.1 C.2.1 (dd_at td_whole 15 rfl) rfl (lv_at hl 0 rfl) ?_
      refine lv_dup C.1 C.2.1 (dd_at td_whole 16 rfl) rfl ?_
      refine mm_gI C hM 22 (dd_at td_whole 17 rfl) (by decide) (by decide) (by decide) ?_
      refine lv_iconst (v := (1 : Int32)) C.1 C.2.1 (dd_at td_whole 18 rfl) (by decide) ?_
      refine lv_isub C.1 C.2.1 (dd_at td_whole 19 rfl) ?_
      refine mm_pI C hM 22 (dd_at td_whole 20 rfl) (by decide) (by decide) (by decide) rfl rfl (fun st6 H locs est6 hM => ?_)
      replace hf := fc_of_nm hf st6 est6
      refine lv_aload_n C.1 C.2.1 (dd_at td_whole 21 rfl) rfl (lv_at hl 0 rfl) ?_
      refine lv_dup C.1 C.2.1 (dd_at td_whole 22 rfl) rfl ?_
      refine mm_gI C hM 23 (dd_at td_whole 23 rfl) (by decide) (by decide) (by decide) ?_
      refine lv_iconst (v := (1 : Int32)) C.1 C.2.1 (dd_at td_whole 24 rfl) (by decide) ?_
      refine lv_isub C.1 C.2.1 (dd_at td_whole 25 rfl) ?_
      refine mm_pI C hM 23 (dd_at td_whole 26 rfl) (by decide) (by decide) (by decide) rfl rfl (fun st7 H locs est7 hM => ?_)
      replace hf := fc_of_nm hf st7 est7
      refine lv_goto (tgt := 0) C.1 C.2.1 (dd_at td_whole 27 rfl) (by decide) ?_
      exact hK0 st7 _ _ _ hf (lv_sub hl [0] rfl) hM
theorem w_whole_b0 {p : Program} {l : Launch} {e : Env} {s : State} {m : MethodId} {args : Array Value} {below : List Frame} {meth : Method} {c : Code} {D : va_G} {o : Nat} {ad : Nat → Nat} {cs : ClassId × ClassId × ClassId} {st' : mm_S} (C : mm_C p s m args meth c cX12_whole 1 (none) D cs) (fu : Nat) (n : Nat) : ∀ (st : mm_S), M_whole_b0 fu n st = some st' → ∀ (H : Heap) (locs : List Loc) (ls : Array Slot), lv_has ls 1 [(0, .ref o)] → mm_H D o ad cs s.heap st H locs → W p l e (mm_R 1 21) s m args below meth c H locs 0 0 (MQ below (mm_Qv D o ad cs st') args s 0 0 (mm_A o ad)) (F0 m 0 ls []) := by
  induction n with
  | zero => exact fun _ hf => fc_no hf
  | succ n ih =>
    intro st hf H locs ls hl hM
    exact w_whole_b0F C fu (fun st => M_whole_b0 fu n st) (fun st H locs ls hf hl hM => ih st hf H locs ls hl hM) st hf hl hM
theorem w_whole {p : Program} {l : Launch} {e : Env} {s : State} {m : MethodId} {args : Array Value} {below : List Frame} {meth : Method} {c : Code} {D : va_G} {o : Nat} {ad : Nat → Nat} {cs : ClassId × ClassId × ClassId} {st' : mm_S} (C : mm_C p s m args meth c cX12_whole 1 (none) D cs) (fu : Nat) (st : mm_S) (hf : M_whole fu st = some st') {H : Heap} {locs : List Loc} {ls : Array Slot} (hl : lv_has ls 1 [(0, .ref o)]) (hM : mm_H D o ad cs s.heap st H locs) : W p l e (mm_R 1 21) s m args below meth c H locs 0 0 (MQ below (mm_Qv D o ad cs st') args s 0 0 (mm_A o ad)) (F0 m 0 ls []) := by
  unfold M_whole at hf
  exact w_whole_b0 C fu fu st hf _ _ _ (lv_sub hl [0] rfl) hM
theorem c_whole (l : Launch) (D : va_G) (o : Nat) (ad : Nat → Nat) (cs : ClassId × ClassId × ClassId) (fu : Nat) (st : mm_S) : mm_Mv l D o ad cs yX12_whole cX12_whole 1 (none) 1 21 [] st (M_whole fu st) := by
  intro st' hf
  refine mm_enter (cc := cX12_whole) (nL := 1) (ret := none) (by decide) rfl (Nat.le_of_ble_eq_true rfl) ?_
  intro p e s m args below meth c ls C hl hM
  exact w_whole C fu st hf hl hM

/-! settle -/
def tb_settle : List (Nat × Instr × Nat) := [(0, .aload_n 0, 1), (1, .getfield 77, 3), (4, .ifCond .le 68, 3), (7, .aload_n 0, 1), (8, .getfield 71, 3), (11, .aload_n 0, 1), (12, .getfield 77, 3), (15, .iconst 1, 1), (16, .isub, 1), (17, .iaload, 1), (18, .bipush 38, 2), (20, .if_icmp .eq 25, 3), (23, .aload_n 0, 1), (24, .getfield 71, 3), (27, .aload_n 0, 1), (28, .getfield 77, 3), (31, .iconst 1, 1), (32, .isub, 1), (33, .iaload, 1), (34, .bipush 124, 2), (36, .if_icmp .ne 36, 3), (39, .iload_n 1, 1), (40, .bipush 38, 2), (42, .if_icmp .eq 30, 3), (45, .aload_n 0, 1), (46, .dup, 1), (47, .getfield 77, 3), (50, .iconst 1, 1), (51, .isub, 1), (52, .putfield 77, 3), (55, .aload_n 0, 1), (56, .aload_n 0, 1), (57, .getfield 71, 3), (60, .aload_n 0, 1), (61, .getfield 77, 3), (64, .iaload, 1), (65, .ineg, 1), (66, .invokevirtual 229, 3), (69, .goto (-69), 3), (72, .return_, 1)]
theorem td_settle : tb_settle.all (fun q => decide (decode cX12_settle q.1 = .ok (q.2.1, q.2.2))) = true := by decide +kernel
theorem hd_settle : yX12_settle.cls = RX12 ∧ yX12_settle.cls ≠ "java/lang/invoke/MethodHandle" ∧ yX12_settle.cls ≠ "java/lang/invoke/VarHandle" ∧ (parseMethodDescriptor yX12_settle.desc).map (fun d => d.parameters.length) = some 1 := by decide +kernel
theorem w_settle_b45 {p : Program} {l : Launch} {e : Env} {s : State} {m : MethodId} {args : Array Value} {below : List Frame} {meth : Method} {c : Code} {D : va_G} {o : Nat} {ad : Nat → Nat} {cs : ClassId × ClassId × ClassId} {st' : mm_S} (C : mm_C p s m args meth c cX12_settle 2 (none) D cs) (fu : Nat) (K0 : Int32 → mm_S → Option mm_S) (hK0 : ∀ (x1 : Int32) (st : mm_S) (H : Heap) (locs : List Loc) (ls : Array Slot), K0 x1 st = some st' → lv_has ls 2 [(0, .ref o), (1, .int x1)] → mm_H D o ad cs s.heap st H locs → W p l e (mm_R 1 21) s m args below meth c H locs 0 0 (MQ below (mm_Qv D o ad cs st') args s 0 0 (mm_A o ad)) (F0 m 0 ls [])) (x1 : Int32) (st : mm_S) (hf : M_settle_b45 fu K0 x1 st = some st') {H : Heap} {locs : List Loc} {ls : Array Slot} (hl : lv_has ls 2 [(0, .ref o), (1, .int x1)]) (hM : mm_H D o ad cs s.heap st H locs) : W p l e (mm_R 1 21) s m args below meth c H locs 0 0 (MQ below (mm_Qv D o ad cs st') args s 0 0 (mm_A o ad)) (F0 m 45 ls []) := by
  unfold M_settle_b45 at hf
  refine lv_aload_n C.1 C.2.1 (dd_at td_settle 24 rfl) rfl (lv_at hl 0 rfl) ?_
  refine lv_dup C.1 C.2.1 (dd_at td_settle 25 rfl) rfl ?_
  refine mm_gI C hM 22 (dd_at td_settle 26 rfl) (by decide) (by decide) (by decide) ?_
  refine lv_iconst (v := (1 : Int32)) C.1 C.2.1 (dd_at td_settle 27 rfl) (by decide) ?_
  refine lv_isub C.1 C.2.1 (dd_at td_settle 28 rfl) ?_
  refine mm_pI C hM 22 (dd_at td_settle 29 rfl) (by decide) (by decide) (by decide) rfl rfl (fun st7 H locs est7 hM => ?_)
  replace hf := fc_of_nm hf st7 est7
  refine lv_aload_n C.1 C.2.1 (dd_at td_settle 30 rfl) rfl (lv_at hl 0 rfl) ?_
  refine lv_aload_n C.1 C.2.1 (dd_at td_settle 31 rfl) rfl (lv_at hl 0 rfl) ?_
  refine mm_gA C hM 20 (dd_at td_settle 32 rfl) (by decide) (by decide) (by decide) ?_
  refine lv_aload_n C.1 C.2.1 (dd_at td_settle 33 rfl) rfl (lv_at hl 0 rfl) ?_
  refine mm_gI C hM 22 (dd_at td_settle 34 rfl) (by decide) (by decide) (by decide) ?_
  obtain ⟨g8, hf⟩ := fc_of_gd hf
  refine mm_iald C hM 20 (dd_at td_settle 35 rfl) (by decide) (by decide) (fc_of_ix g8) ?_
  refine lv_ineg C.1 C.2.1 (dd_at td_settle 36 rfl) ?_
  obtain ⟨st9, hx10, hf⟩ := fc_of_bv hf
  refine mm_cv (As := [.int (-(mm_G st7 20 (mm_I st7 22).toNatClampNeg))]) (rest := []) (n := 1) C hM (c_emits l D o ad cs fu (-(mm_G st7 20 (mm_I st7 22).toNatClampNeg)) st7) (List.mem_of_getElem? (i := 8) rfl) (dd_at td_settle 37 rfl) hx10 hl.1 hd_emits ⟨Nat.le_of_ble_eq_true rfl, Nat.le_of_ble_eq_true rfl⟩ rfl rfl (Nat.le_of_ble_eq_true rfl) ⟨Nat.le_refl 0, Nat.le_refl 0⟩ (fun H locs hM => ?_)
  refine lv_goto (tgt := 0) C.1 C.2.1 (dd_at td_settle 38 rfl) (by decide) ?_
  exact hK0 x1 st9 _ _ _ hf (lv_sub hl [0, 1] rfl) hM
theorem w_settle_b0F {p : Program} {l : Launch} {e : Env} {s : State} {m : MethodId} {args : Array Value} {below : List Frame} {meth : Method} {c : Code} {D : va_G} {o : Nat} {ad : Nat → Nat} {cs : ClassId × ClassId × ClassId} {st' : mm_S} (C : mm_C p s m args meth c cX12_settle 2 (none) D cs) (fu : Nat) (K0 : Int32 → mm_S → Option mm_S) (hK0 : ∀ (x1 : Int32) (st : mm_S) (H : Heap) (locs : List Loc) (ls : Array Slot), K0 x1 st = some st' → lv_has ls 2 [(0, .ref o), (1, .int x1)] → mm_H D o ad cs s.heap st H locs → W p l e (mm_R 1 21) s m args below meth c H locs 0 0 (MQ below (mm_Qv D o ad cs st') args s 0 0 (mm_A o ad)) (F0 m 0 ls [])) (x1 : Int32) (st : mm_S) (hf : M_settle_b0F fu K0 x1 st = some st') {H : Heap} {locs : List Loc} {ls : Array Slot} (hl : lv_has ls 2 [(0, .ref o), (1, .int x1)]) (hM : mm_H D o ad cs s.heap st H locs) : W p l e (mm_R 1 21) s m args below meth c H locs 0 0 (MQ below (mm_Qv D o ad cs st') args s 0 0 (mm_A o ad)) (F0 m 0 ls []) := by
  unfold M_settle_b0F at hf
  refine lv_aload_n C.1 C.2.1 (dd_at td_settle 0 rfl) rfl (lv_at hl 0 rfl) ?_
  refine mm_gI C hM 22 (dd_at td_settle 1 rfl) (by decide) (by decide) (by decide) ?_
  refine lv_if_le (tgt := 72) C.1 C.2.1 (dd_at td_settle 2 rfl) (by decide) (fun c1 => ?_) (fun c1 => ?_)
  · replace hf := fc_of_t hf c1
    exact mm_rv C hM (dd_at td_settle 39 rfl) hf
  · replace hf := fc_of_f hf c1
    refine lv_aload_n C.1 C.2.1 (dd_at td_settle 3 rfl) rfl (lv_at hl 0 rfl) ?_
    refine mm_gA C hM 20 (dd_at td_settle 4 rfl) (by decide) (by decide) (by decide) ?_
    refine lv_aload_n C.1 C.2.1 (dd_at td_settle 5 rfl) rfl (lv_at hl 0 rfl) ?_
    refine mm_gI C hM 22 (dd_at td_settle 6 rfl) (by decide) (by decide) (by decide) ?_
    refine lv_iconst (v := (1 : Int32)) C.1 C.2.1 (dd_at td_settle 7 rfl) (by decide) ?_
    refine lv_isub C.1 C.2.1 (dd_at td_settle 8 rfl) ?_
    obtain ⟨g2, hf⟩ := fc_of_gd hf
    refine mm_iald C hM 20 (dd_at td_settle 9 rfl) (by decide) (by decide) (fc_of_ix g2) ?_
    refine lv_bipush (v := (38 : Int32)) C.1 C.2.1 (dd_at td_settle 10 rfl) (by decide) ?_
    refine lv_icmp_eq (tgt := 45) C.1 C.2.1 (dd_at td_settle 11 rfl) (by decide) (fun c3 => ?_) (fun c3 => ?_)
    · replace hf := fc_of_t hf c3
      exact w_settle_b45 C fu K0 hK0 x1 st hf (lv_sub hl [0, 1] rfl) hM
    · replace hf := fc_of_f hf c3
      refine lv_aload_n C.1 C.2.1 (dd_at td_settle 12 rfl) rfl (lv_at hl 0 rfl) ?_
      refine mm_gA C hM 20 (dd_at td_settle 13 rfl) (by decide) (by decide) (by decide) ?_
      refine lv_aload_n C.1 C.2.1 (dd_at td_settle 14 rfl) rfl (lv_at hl 0 rfl) ?_
      refine mm_gI C hM 22 (dd_at td_settle 15 rfl) (by decide) (by decide) (by decide) ?_
      refine lv_iconst (v := (1 : Int32)) C.1 C.2.1 (dd_at td_settle 16 rfl) (by decide) ?_
      refine lv_isub C.1 C.2.1 (dd_at td_settle 17 rfl) ?_
      obtain ⟨g4, hf⟩ := fc_of_gd hf
      refine mm_iald C hM 20 (dd_at td_settle 18 rfl) (by decide) (by decide) (fc_of_ix g4) ?_
      refine lv_bipush (v := (124 : Int32)) C.1 C.2.1 (dd_at td_settle 19 rfl) (by decide) ?_
      refine lv_icmp_ne (tgt := 72) C.1 C.2.1 (dd_at td_settle 20 rfl) (by decide) (fun c5 => ?_) (fun c5 => ?_)
      · replace hf := fc_of_f hf c5
        exact mm_rv C hM (dd_at td_settle 39 rfl) hf
      · replace hf := fc_of_t hf c5
        refine lv_iload_n C.1 C.2.1 (dd_at td_settle 21 rfl) rfl (lv_at hl 1 rfl) ?_
        refine lv_bipush (v := (38 : Int32)) C.1 C.2.1 (dd_at td_settle 22 rfl) (by decide) ?_
        refine lv_icmp_eq (tgt := 72) C.1 C.2.1 (dd_at td_settle 23 rfl) (by decide) (fun c6 => ?_) (fun c6 => ?_)
        · replace hf := fc_of_t hf c6
          exact mm_rv C hM (dd_at td_settle 39 rfl) hf
        · replace hf := fc_of_f hf c6
          exact w_settle_b45 C fu K0 hK0 x1 st hf (lv_sub hl [0, 1] rfl) hM
theorem w_settle_b0 {p : Program} {l : Launch} {e : Env} {s : State} {m : MethodId} {args : Array Value} {below : List Frame} {meth : Method} {c : Code} {D : va_G} {o : Nat} {ad : Nat → Nat} {cs : ClassId × ClassId × ClassId} {st' : mm_S} (C : mm_C p s m args meth c cX12_settle 2 (none) D cs) (fu : Nat) (n : Nat) : ∀ (x1 : Int32) (st : mm_S), M_settle_b0 fu n x1 st = some st' → ∀ (H : Heap) (locs : List Loc) (ls : Array Slot), lv_has ls 2 [(0, .ref o), (1, .int x1)] → mm_H D o ad cs s.heap st H locs → W p l e (mm_R 1 21) s m args below meth c H locs 0 0 (MQ below (mm_Qv D o ad cs st') args s 0 0 (mm_A o ad)) (F0 m 0 ls []) := by
  induction n with
  | zero => exact fun _ _ hf => fc_no hf
  | succ n ih =>
    intro x1 st hf H locs ls hl hM
    exact w_settle_b0F C fu (fun x1 st => M_settle_b0 fu n x1 st) (fun x1 st H locs ls hf hl hM => ih x1 st hf H locs ls hl hM) x1 st hf hl hM
theorem w_settle {p : Program} {l : Launch} {e : Env} {s : State} {m : MethodId} {args : Array Value} {below : List Frame} {meth : Method} {c : Code} {D : va_G} {o : Nat} {ad : Nat → Nat} {cs : ClassId × ClassId × ClassId} {st' : mm_S} (C : mm_C p s m args meth c cX12_settle 2 (none) D cs) (fu : Nat) (x1 : Int32) (st : mm_S) (hf : M_settle fu x1 st = some st') {H : Heap} {locs : List Loc} {ls : Array Slot} (hl : lv_has ls 2 [(0, .ref o), (1, .int x1)]) (hM : mm_H D o ad cs s.heap st H locs) : W p l e (mm_R 1 21) s m args below meth c H locs 0 0 (MQ below (mm_Qv D o ad cs st') args s 0 0 (mm_A o ad)) (F0 m 0 ls []) := by
  unfold M_settle at hf
  exact w_settle_b0 C fu fu x1 st hf _ _ _ (lv_sub hl [0, 1] rfl) hM
theorem c_settle (l : Launch) (D : va_G) (o : Nat) (ad : Nat → Nat) (cs : ClassId × ClassId × ClassId) (fu : Nat) (x1 : Int32) (st : mm_S) : mm_Mv l D o ad cs yX12_settle cX12_settle 2 (none) 1 21 [.int x1] st (M_settle fu x1 st) := by
  intro st' hf
  refine mm_enter (cc := cX12_settle) (nL := 2) (ret := none) (by decide) rfl (Nat.le_of_ble_eq_true rfl) ?_
  intro p e s m args below meth c ls C hl hM
  exact w_settle C fu x1 st hf hl hM

/-! place -/
def tb_place : List (Nat × Instr × Nat) := [(0, .iload_n 1, 1), (1, .lookupswitch 71 #[(99, 67), (100, 69), (105, 59), (107, 61), (118, 63), (121, 65)], 59), (60, .iconst 0, 1), (61, .ireturn, 1), (62, .iconst 1, 1), (63, .ireturn, 1), (64, .iconst 2, 1), (65, .ireturn, 1), (66, .iconst 3, 1), (67, .ireturn, 1), (68, .iconst 4, 1), (69, .ireturn, 1), (70, .iconst 5, 1), (71, .ireturn, 1), (72, .iconst (-1), 1), (73, .ireturn, 1)]
theorem td_place : tb_place.all (fun q => decide (decode cX12_place q.1 = .ok (q.2.1, q.2.2))) = true := by decide +kernel
theorem hd_place : yX12_place.cls = RX12 ∧ yX12_place.cls ≠ "java/lang/invoke/MethodHandle" ∧ yX12_place.cls ≠ "java/lang/invoke/VarHandle" ∧ (parseMethodDescriptor yX12_place.desc).map (fun d => d.parameters.length) = some 1 := by decide +kernel
theorem w_place {p : Program} {l : Launch} {e : Env} {s : State} {m : MethodId} {args : Array Value} {below : List Frame} {meth : Method} {c : Code} {D : va_G} {o : Nat} {ad : Nat → Nat} {cs : ClassId × ClassId × ClassId} {r : Int32} {st' : mm_S} (C : mm_C p s m args meth c cX12_place 2 (some .int) D cs) (fu : Nat) (x1 : Int32) (st : mm_S) (hf : M_place fu x1 st = some (r, st')) {H : Heap} {locs : List Loc} {ls : Array Slot} (hl : lv_has ls 2 [(0, .ref o), (1, .int x1)]) (hM : mm_H D o ad cs s.heap st H locs) : W p l e (mm_R 0 0) s m args below meth c H locs 0 0 (MQ below (mm_Qi D o ad cs r st') args s 0 0 (mm_A o ad)) (F0 m 0 ls []) := by
  unfold M_place at hf
  refine lv_iload_n C.1 C.2.1 (dd_at td_place 0 rfl) rfl (lv_at hl 1 rfl) ?_
  by_cases c1 : x1 = (99 : Int32)
  · replace hf := fc_of_t hf c1
    refine lv_lookup (off := 67) (tgt := 68) C.1 C.2.1 (dd_at td_place 1 rfl) (by decide) (by rw [c1]; decide) (by decide) ?_
    refine lv_iconst (v := (4 : Int32)) C.1 C.2.1 (dd_at td_place 10 rfl) (by decide) ?_
    exact mm_ri C hM (dd_at td_place 11 rfl) hf
  · replace hf := fc_of_f hf c1
    by_cases c2 : x1 = (100 : Int32)
    · replace hf := fc_of_t hf c2
      refine lv_lookup (off := 69) (tgt := 70) C.1 C.2.1 (dd_at td_place 1 rfl) (by decide) (by rw [c2]; decide) (by decide) ?_
      refine lv_iconst (v := (5 : Int32)) C.1 C.2.1 (dd_at td_place 12 rfl) (by decide) ?_
      exact mm_ri C hM (dd_at td_place 13 rfl) hf
    · replace hf := fc_of_f hf c2
      by_cases c3 : x1 = (105 : Int32)
      · replace hf := fc_of_t hf c3
        refine lv_lookup (off := 59) (tgt := 60) C.1 C.2.1 (dd_at td_place 1 rfl) (by decide) (by rw [c3]; decide) (by decide) ?_
        refine lv_iconst (v := (0 : Int32)) C.1 C.2.1 (dd_at td_place 2 rfl) (by decide) ?_
        exact mm_ri C hM (dd_at td_place 3 rfl) hf
      · replace hf := fc_of_f hf c3
        by_cases c4 : x1 = (107 : Int32)
        · replace hf := fc_of_t hf c4
          refine lv_lookup (off := 61) (tgt := 62) C.1 C.2.1 (dd_at td_place 1 rfl) (by decide) (by rw [c4]; decide) (by decide) ?_
          refine lv_iconst (v := (1 : Int32)) C.1 C.2.1 (dd_at td_place 4 rfl) (by decide) ?_
          exact mm_ri C hM (dd_at td_place 5 rfl) hf
        · replace hf := fc_of_f hf c4
          by_cases c5 : x1 = (118 : Int32)
          · replace hf := fc_of_t hf c5
            refine lv_lookup (off := 63) (tgt := 64) C.1 C.2.1 (dd_at td_place 1 rfl) (by decide) (by rw [c5]; decide) (by decide) ?_
            refine lv_iconst (v := (2 : Int32)) C.1 C.2.1 (dd_at td_place 6 rfl) (by decide) ?_
            exact mm_ri C hM (dd_at td_place 7 rfl) hf
          · replace hf := fc_of_f hf c5
            by_cases c6 : x1 = (121 : Int32)
            · replace hf := fc_of_t hf c6
              refine lv_lookup (off := 65) (tgt := 66) C.1 C.2.1 (dd_at td_place 1 rfl) (by decide) (by rw [c6]; decide) (by decide) ?_
              refine lv_iconst (v := (3 : Int32)) C.1 C.2.1 (dd_at td_place 8 rfl) (by decide) ?_
              exact mm_ri C hM (dd_at td_place 9 rfl) hf
            · replace hf := fc_of_f hf c6
              refine lv_lookup (off := 71) (tgt := 72) C.1 C.2.1 (dd_at td_place 1 rfl) (by decide) (by show Op.lookupswitch.offset [(99, 67), (100, 69), (105, 59), (107, 61), (118, 63), (121, 65)] 71 _ = _; rw [lv_osw c1 (by decide), lv_osw c2 (by decide), lv_osw c3 (by decide), lv_osw c4 (by decide), lv_osw c5 (by decide), lv_osw c6 (by decide)]; rfl) (by decide) ?_
              refine lv_iconst (v := (-1 : Int32)) C.1 C.2.1 (dd_at td_place 14 rfl) (by decide) ?_
              exact mm_ri C hM (dd_at td_place 15 rfl) hf
theorem c_place (l : Launch) (D : va_G) (o : Nat) (ad : Nat → Nat) (cs : ClassId × ClassId × ClassId) (fu : Nat) (x1 : Int32) (st : mm_S) : mm_Mi l D o ad cs yX12_place cX12_place 2 (some .int) 0 0 [.int x1] st (M_place fu x1 st) := by
  intro r st' hf
  refine mm_enter (cc := cX12_place) (nL := 2) (ret := some .int) (by decide) rfl (Nat.le_of_ble_eq_true rfl) ?_
  intro p e s m args below meth c ls C hl hM
  exact w_place C fu x1 st hf hl hM

/-! takesTest -/
def tb_takesTest : List (Nat × Instr × Nat) := [(0, .aload_n 0, 1), (1, .aload_n 0, 1), (2, .invokevirtual 218, 3), (5, .invokevirtual 233, 3), (8, .istore_n 1, 1), (9, .iload_n 1, 1), (10, .ifCond .ge 5, 3), (13, .iconst 0, 1), (14, .ireturn, 1), (15, .aload_n 0, 1), (16, .dup, 1), (17, .getfield 44, 3), (20, .iconst 1, 1), (21, .iadd, 1), (22, .putfield 44, 3), (25, .aload_n 0, 1), (26, .invokevirtual 218, 3), (29, .istore_n 2, 1), (30, .aload_n 0, 1), (31, .iload_n 2, 1), (32, .bipush 60, 2), (34, .bipush 62, 2), (36, .invokevirtual 207, 3), (39, .ifCond .ne 5, 3), (42, .iconst 0, 1), (43, .ireturn, 1), (44, .aload_n 0, 1), (45, .dup, 1), (46, .getfield 44, 3), (49, .iconst 1, 1), (50, .iadd, 1), (51, .putfield 44, 3), (54, .aload_n 0, 1), (55, .invokevirtual 237, 3), (58, .ifCond .ne 5, 3), (61, .iconst 0, 1), (62, .ireturn, 1), (63, .aload_n 0, 1), (64, .sipush 1000, 3), (67, .iload_n 1, 1), (68, .imul, 1), (69, .bipush 100, 2), (71, .iload_n 2, 1), (72, .bipush 60, 2), (74, .isub, 1), (75, .imul, 1), (76, .iadd, 1), (77, .aload_n 0, 1), (78, .getfield 47, 3), (81, .iadd, 1), (82, .invokevirtual 229, 3), (85, .aload_n 0, 1), (86, .invokevirtual 240, 3), (89, .iconst 1, 1), (90, .ireturn, 1)]
theorem td_takesTest : tb_takesTest.all (fun q => decide (decode cX12_takesTest q.1 = .ok (q.2.1, q.2.2))) = true := by decide +kernel
theorem hd_takesTest : yX12_takesTest.cls = RX12 ∧ yX12_takesTest.cls ≠ "java/lang/invoke/MethodHandle" ∧ yX12_takesTest.cls ≠ "java/lang/invoke/VarHandle" ∧ (parseMethodDescriptor yX12_takesTest.desc).map (fun d => d.parameters.length) = some 0 := by decide +kernel
theorem w_takesTest {p : Program} {l : Launch} {e : Env} {s : State} {m : MethodId} {args : Array Value} {below : List Frame} {meth : Method} {c : Code} {D : va_G} {o : Nat} {ad : Nat → Nat} {cs : ClassId × ClassId × ClassId} {r : Int32} {st' : mm_S} (C : mm_C p s m args meth c cX12_takesTest 3 (some .boolean) D cs) (fu : Nat) (st : mm_S) (hf : M_takesTest fu st = some (r, st')) {H : Heap} {locs : List Loc} {ls : Array Slot} (hl : lv_has ls 3 [(0, .ref o)]) (hM : mm_H D o ad cs s.heap st H locs) : W p l e (mm_R 3 64) s m args below meth c H locs 0 0 (MQ below (mm_Qi D o ad cs r st') args s 0 0 (mm_A o ad)) (F0 m 0 ls []) := by
  unfold M_takesTest at hf
  refine lv_aload_n C.1 C.2.1 (dd_at td_takesTest 0 rfl) rfl (lv_at hl 0 rfl) ?_
  refine lv_aload_n C.1 C.2.1 (dd_at td_takesTest 1 rfl) rfl (lv_at hl 0 rfl) ?_
  obtain ⟨r3, st1, hx2, hf⟩ := fc_of_bn hf
  refine mm_ci (As := []) (rest := [.ref o]) (n := 0) C hM (c_next l D o ad cs fu st) (List.mem_of_getElem? (i := 33) rfl) (dd_at td_takesTest 2 rfl) hx2 hl.1 hd_next ⟨Nat.le_of_ble_eq_true rfl, Nat.le_of_ble_eq_true rfl⟩ rfl rfl (Nat.le_of_ble_eq_true rfl) ⟨Nat.le_refl 0, Nat.le_refl 0⟩ (fun H locs hM => ?_)
  obtain ⟨r6, st4, hx5, hf⟩ := fc_of_bn hf
  refine mm_ci (As := [.int r3]) (rest := []) (n := 1) C hM (c_place l D o ad cs fu r3 st1) (List.mem_of_getElem? (i := 34) rfl) (dd_at td_takesTest 3 rfl) hx5 hl.1 hd_place ⟨Nat.le_of_ble_eq_true rfl, Nat.le_of_ble_eq_true rfl⟩ rfl rfl (Nat.le_of_ble_eq_true rfl) ⟨Nat.le_refl 0, Nat.le_refl 0⟩ (fun H locs hM => ?_)
  refine lv_istore_n (lv' := [(1, .int r6), (0, .ref o)]) C.1 C.2.1 (dd_at td_takesTest 4 rfl) rfl hl (by decide) rfl (fun ls hl => ?_)
  refine lv_iload_n C.1 C.2.1 (dd_at td_takesTest 5 rfl) rfl (lv_at hl 0 rfl) ?_
  refine lv_if_ge (tgt := 15) C.1 C.2.1 (dd_at td_takesTest 6 rfl) (by decide) (fun c7 => ?_) (fun c7 => ?_)
  · replace hf := fc_of_t hf c7
    refine lv_aload_n C.1 C.2.1 (dd_at td_takesTest 9 rfl) rfl (lv_at hl 1 rfl) ?_
    refine lv_dup C.1 C.2.1 (dd_at td_takesTest 10 rfl) rfl ?_
    refine mm_gI C hM 11 (dd_at td_takesTest 11 rfl) (by decide) (by decide) (by decide) ?_
    refine lv_iconst (v := (1 : Int32)) C.1 C.2.1 (dd_at td_takesTest 12 rfl) (by decide) ?_
    refine lv_iadd C.1 C.2.1 (dd_at td_takesTest 13 rfl) ?_
    refine mm_pI C hM 11 (dd_at td_takesTest 14 rfl) (by decide) (by decide) (by decide) rfl rfl (fun st8 H locs est8 hM => ?_)
    replace hf := fc_of_nm hf st8 est8
    refine lv_aload_n C.1 C.2.1 (dd_at td_takesTest 15 rfl) rfl (lv_at hl 1 rfl) ?_
    obtain ⟨r11, st9, hx10, hf⟩ := fc_of_bn hf
    refine mm_ci (As := []) (rest := []) (n := 0) C hM (c_next l D o ad cs fu st8) (List.mem_of_getElem? (i := 33) rfl) (dd_at td_takesTest 16 rfl) hx10 hl.1 hd_next ⟨Nat.le_of_ble_eq_true rfl, Nat.le_of_ble_eq_true rfl⟩ rfl rfl (Nat.le_of_ble_eq_true rfl) ⟨Nat.le_refl 0, Nat.le_refl 0⟩ (fun H locs hM => ?_)
    refine lv_istore_n (lv' := [(2, .int r11), (1, .int r6), (0, .ref o)]) C.1 C.2.1 (dd_at td_takesTest 17 rfl) rfl hl (by decide) rfl (fun ls hl => ?_)
    refine lv_aload_n C.1 C.2.1 (dd_at td_takesTest 18 rfl) rfl (lv_at hl 2 rfl) ?_
    refine lv_iload_n C.1 C.2.1 (dd_at td_takesTest 19 rfl) rfl (lv_at hl 0 rfl) ?_
    refine lv_bipush (v := (60 : Int32)) C.1 C.2.1 (dd_at td_takesTest 20 rfl) (by decide) ?_
    refine lv_bipush (v := (62 : Int32)) C.1 C.2.1 (dd_at td_takesTest 21 rfl) (by decide) ?_
    obtain ⟨r14, st12, hx13, hf⟩ := fc_of_bn hf
    refine mm_ci (As := [.int r11, .int (60 : Int32), .int (62 : Int32)]) (rest := []) (n := 3) C hM (c_in l D o ad cs fu r11 (60 : Int32) (62 : Int32) st9) (List.mem_of_getElem? (i := 18) rfl) (dd_at td_takesTest 22 rfl) hx13 hl.1 hd_in ⟨Nat.le_of_ble_eq_true rfl, Nat.le_of_ble_eq_true rfl⟩ rfl rfl (Nat.le_of_ble_eq_true rfl) ⟨Nat.le_refl 0, Nat.le_refl 0⟩ (fun H locs hM => ?_)
    refine lv_if_ne (tgt := 44) C.1 C.2.1 (dd_at td_takesTest 23 rfl) (by decide) (fun c15 => ?_) (fun c15 => ?_)
    · replace hf := fc_of_f hf c15
      refine lv_aload_n C.1 C.2.1 (dd_at td_takesTest 26 rfl) rfl (lv_at hl 2 rfl) ?_
      refine lv_dup C.1 C.2.1 (dd_at td_takesTest 27 rfl) rfl ?_
      refine mm_gI C hM 11 (dd_at td_takesTest 28 rfl) (by decide) (by decide) (by decide) ?_
      refine lv_iconst (v := (1 : Int32)) C.1 C.2.1 (dd_at td_takesTest 29 rfl) (by decide) ?_
      refine lv_iadd C.1 C.2.1 (dd_at td_takesTest 30 rfl) ?_
      refine mm_pI C hM 11 (dd_at td_takesTest 31 rfl) (by decide) (by decide) (by decide) rfl rfl (fun st16 H locs est16 hM => ?_)
      replace hf := fc_of_nm hf st16 est16
      refine lv_aload_n C.1 C.2.1 (dd_at td_takesTest 32 rfl) rfl (lv_at hl 2 rfl) ?_
      obtain ⟨r19, st17, hx18, hf⟩ := fc_of_bn hf
      refine mm_ci (As := []) (rest := []) (n := 0) C hM (c_takesNumber l D o ad cs fu st16) (List.mem_of_getElem? (i := 42) rfl) (dd_at td_takesTest 33 rfl) hx18 hl.1 hd_takesNumber ⟨Nat.le_of_ble_eq_true rfl, Nat.le_of_ble_eq_true rfl⟩ rfl rfl (Nat.le_of_ble_eq_true rfl) ⟨Nat.le_refl 0, Nat.le_refl 0⟩ (fun H locs hM => ?_)
      refine lv_if_ne (tgt := 63) C.1 C.2.1 (dd_at td_takesTest 34 rfl) (by decide) (fun c20 => ?_) (fun c20 => ?_)
      · replace hf := fc_of_f hf c20
        refine lv_aload_n C.1 C.2.1 (dd_at td_takesTest 37 rfl) rfl (lv_at hl 2 rfl) ?_
        refine lv_sipush (v := (1000 : Int32)) C.1 C.2.1 (dd_at td_takesTest 38 rfl) (by decide) ?_
        refine lv_iload_n C.1 C.2.1 (dd_at td_takesTest 39 rfl) rfl (lv_at hl 1 rfl) ?_
        refine lv_imul C.1 C.2.1 (dd_at td_takesTest 40 rfl) ?_
        refine lv_bipush (v := (100 : Int32)) C.1 C.2.1 (dd_at td_takesTest 41 rfl) (by decide) ?_
        refine lv_iload_n C.1 C.2.1 (dd_at td_takesTest 42 rfl) rfl (lv_at hl 0 rfl) ?_
        refine lv_bipush (v := (60 : Int32)) C.1 C.2.1 (dd_at td_takesTest 43 rfl) (by decide) ?_
        refine lv_isub C.1 C.2.1 (dd_at td_takesTest 44 rfl) ?_
        refine lv_imul C.1 C.2.1 (dd_at td_takesTest 45 rfl) ?_
        refine lv_iadd C.1 C.2.1 (dd_at td_takesTest 46 rfl) ?_
        refine lv_aload_n C.1 C.2.1 (dd_at td_takesTest 47 rfl) rfl (lv_at hl 2 rfl) ?_
        refine mm_gI C hM 12 (dd_at td_takesTest 48 rfl) (by decide) (by decide) (by decide) ?_
        refine lv_iadd C.1 C.2.1 (dd_at td_takesTest 49 rfl) ?_
        obtain ⟨st21, hx22, hf⟩ := fc_of_bv hf
        refine mm_cv (As := [.int ((((1000 : Int32) * r6) + ((100 : Int32) * (r11 - (60 : Int32)))) + (mm_I st17 12))]) (rest := []) (n := 1) C hM (c_emits l D o ad cs fu ((((1000 : Int32) * r6) + ((100 : Int32) * (r11 - (60 : Int32)))) + (mm_I st17 12)) st17) (List.mem_of_getElem? (i := 8) rfl) (dd_at td_takesTest 50 rfl) hx22 hl.1 hd_emits ⟨Nat.le_of_ble_eq_true rfl, Nat.le_of_ble_eq_true rfl⟩ rfl rfl (Nat.le_of_ble_eq_true rfl) ⟨Nat.le_refl 0, Nat.le_refl 0⟩ (fun H locs hM => ?_)
        refine lv_aload_n C.1 C.2.1 (dd_at td_takesTest 51 rfl) rfl (lv_at hl 2 rfl) ?_
        obtain ⟨st23, hx24, hf⟩ := fc_of_bv hf
        refine mm_cv (As := []) (rest := []) (n := 0) C hM (c_whole l D o ad cs fu st21) (List.mem_of_getElem? (i := 47) rfl) (dd_at td_takesTest 52 rfl) hx24 hl.1 hd_whole ⟨Nat.le_of_ble_eq_true rfl, Nat.le_of_ble_eq_true rfl⟩ rfl rfl (Nat.le_of_ble_eq_true rfl) ⟨Nat.le_refl 0, Nat.le_refl 0⟩ (fun H locs hM => ?_)
        refine lv_iconst (v := (1 : Int32)) C.1 C.2.1 (dd_at td_takesTest 53 rfl) (by decide) ?_
        exact mm_rz C hM (dd_at td_takesTest 54 rfl) rfl hf
      · replace hf := fc_of_t hf c20
        refine lv_iconst (v := (0 : Int32)) C.1 C.2.1 (dd_at td_takesTest 35 rfl) (by decide) ?_
        exact mm_rz C hM (dd_at td_takesTest 36 rfl) rfl hf
    · replace hf := fc_of_t hf c15
      refine lv_iconst (v := (0 : Int32)) C.1 C.2.1 (dd_at td_takesTest 24 rfl) (by decide) ?_
      exact mm_rz C hM (dd_at td_takesTest 25 rfl) rfl hf
  · replace hf := fc_of_f hf c7
    refine lv_iconst (v := (0 : Int32)) C.1 C.2.1 (dd_at td_takesTest 7 rfl) (by decide) ?_
    exact mm_rz C hM (dd_at td_takesTest 8 rfl) rfl hf
theorem c_takesTest (l : Launch) (D : va_G) (o : Nat) (ad : Nat → Nat) (cs : ClassId × ClassId × ClassId) (fu : Nat) (st : mm_S) : mm_Mi l D o ad cs yX12_takesTest cX12_takesTest 3 (some .boolean) 3 64 [] st (M_takesTest fu st) := by
  intro r st' hf
  refine mm_enter (cc := cX12_takesTest) (nL := 3) (ret := some .boolean) (by decide) rfl (Nat.le_of_ble_eq_true rfl) ?_
  intro p e s m args below meth c ls C hl hM
  exact w_takesTest C fu st hf hl hM
end
section
/-! takesE -/
def tb_takesE : List (Nat × Instr × Nat) := [(0, .aload_n 0, 1), (1, .iconst 0, 1), (2, .putfield 77, 3), (5, .aload_n 0, 1), (6, .iconst 0, 1), (7, .putfield 80, 3), (10, .aload_n 0, 1), (11, .getfield 62, 3), (14, .iload_n 1, 1), (15, .aload_n 0, 1), (16, .getfield 74, 3), (19, .iastore, 1), (20, .iconst 1, 1), (21, .istore_n 2, 1), (22, .aload_n 0, 1), (23, .invokevirtual 218, 3), (26, .istore_n 3, 1), (27, .iload_n 2, 1), (28, .ifCond .eq 82, 3), (31, .iload_n 3, 1), (32, .bipush 33, 2), (34, .if_icmp .eq 9, 3), (37, .iload_n 3, 1), (38, .bipush 40, 2), (40, .if_icmp .ne 56, 3), (43, .aload_n 0, 1), (44, .getfield 80, 3), (47, .iconst 4, 1), (48, .if_icmp .ne 5, 3), (51, .iconst 0, 1), (52, .ireturn, 1), (53, .aload_n 0, 1), (54, .dup, 1), (55, .getfield 80, 3), (58, .iconst 1, 1), (59, .iadd, 1), (60, .putfield 80, 3), (63, .aload_n 0, 1), (64, .getfield 71, 3), (67, .aload_n 0, 1), (68, .getfield 77, 3), (71, .iload_n 3, 1), (72, .iastore, 1), (73, .aload_n 0, 1), (74, .dup, 1), (75, .getfield 77, 3), (78, .iconst 1, 1), (79, .iadd, 1), (80, .putfield 77, 3), (83, .aload_n 0, 1), (84, .dup, 1), (85, .getfield 44, 3), (88, .iconst 1, 1), (89, .iadd, 1), (90, .putfield 44, 3), (93, .goto (-71), 3), (96, .aload_n 0, 1), (97, .invokevirtual 243, 3), (100, .ifCond .eq 8, 3), (103, .iconst 0, 1), (104, .istore_n 2, 1), (105, .goto (-83), 3), (108, .iconst 0, 1), (109, .ireturn, 1), (110, .iload_n 3, 1), (111, .bipush 38, 2), (113, .if_icmp .eq 9, 3), (116, .iload_n 3, 1), (117, .bipush 124, 2), (119, .if_icmp .ne 43, 3), (122, .aload_n 0, 1), (123, .iload_n 3, 1), (124, .invokevirtual 246, 3), (127, .aload_n 0, 1), (128, .getfield 71, 3), (131, .aload_n 0, 1), (132, .getfield 77, 3), (135, .iload_n 3, 1), (136, .iastore, 1), (137, .aload_n 0, 1), (138, .dup, 1), (139, .getfield 77, 3), (142, .iconst 1, 1), (143, .iadd, 1), (144, .putfield 77, 3), (147, .iconst 1, 1), (148, .istore_n 2, 1), (149, .aload_n 0, 1), (150, .dup, 1), (151, .getfield 44, 3), (154, .iconst 1, 1), (155, .iadd, 1), (156, .putfield 44, 3), (159, .goto (-137), 3), (162, .aload_n 0, 1), (163, .bipush 124, 2), (165, .invokevirtual 246, 3), (168, .aload_n 0, 1), (169, .getfield 65, 3), (172, .iload_n 1, 1), (173, .aload_n 0, 1), (174, .getfield 74, 3), (177, .iastore, 1), (178, .aload_n 0, 1), (179, .getfield 77, 3), (182, .ifCond .ne 5, 3), (185, .iconst 1, 1), (186, .ireturn, 1), (187, .iload_n 3, 1), (188, .bipush 41, 2), (190, .if_icmp .eq 5, 3), (193, .iconst 0, 1), (194, .ireturn, 1), (195, .aload_n 0, 1), (196, .dup, 1), (197, .getfield 77, 3), (200, .iconst 1, 1), (201, .isub, 1), (202, .putfield 77, 3), (205, .aload_n 0, 1), (206, .dup, 1), (207, .getfield 80, 3), (210, .iconst 1, 1), (211, .isub, 1), (212, .putfield 80, 3), (215, .aload_n 0, 1), (216, .dup, 1), (217, .getfield 44, 3), (220, .iconst 1, 1), (221, .iadd, 1), (222, .putfield 44, 3), (225, .aload_n 0, 1), (226, .invokevirtual 240, 3), (229, .goto (-207), 3)]
theorem td_takesE : tb_takesE.all (fun q => decide (decode cX12_takesE q.1 = .ok (q.2.1, q.2.2))) = true := by decide +kernel
theorem hd_takesE : yX12_takesE.cls = RX12 ∧ yX12_takesE.cls ≠ "java/lang/invoke/MethodHandle" ∧ yX12_takesE.cls ≠ "java/lang/invoke/VarHandle" ∧ (parseMethodDescriptor yX12_takesE.desc).map (fun d => d.parameters.length) = some 1 := by decide +kernel
theorem w_takesE_b122 {p : Program} {l : Launch} {e : Env} {s : State} {m : MethodId} {args : Array Value} {below : List Frame} {meth : Method} {c : Code} {D : va_G} {o : Nat} {ad : Nat → Nat} {cs : ClassId × ClassId × ClassId} {r : Int32} {st' : mm_S} (C : mm_C p s m args meth c cX12_takesE 4 (some .boolean) D cs) (fu : Nat) (K22 : Int32 → Int32 → mm_S → Option (Int32 × mm_S)) (hK22 : ∀ (x1 : Int32) (x2 : Int32) (st : mm_S) (H : Heap) (locs : List Loc) (ls : Array Slot), K22 x1 x2 st = some (r, st') → lv_has ls 4 [(0, .ref o), (1, .int x1), (2, .int x2)] → mm_H D o ad cs s.heap st H locs → W p l e (mm_R 4 86) s m args below meth c H locs 0 0 (MQ below (mm_Qi D o ad cs r st') args s 0 0 (mm_A o ad)) (F0 m 22 ls [])) (x1 : Int32) (x3 : Int32) (st : mm_S) (hf : M_takesE_b122 fu K22 x1 x3 st = some (r, st')) {H : Heap} {locs : List Loc} {ls : Array Slot} (hl : lv_has ls 4 [(0, .ref o), (1, .int x1), (3, .int x3)]) (hM : mm_H D o ad cs s.heap st H locs) : W p l e (mm_R 4 86) s m args below meth c H locs 0 0 (MQ below (mm_Qi D o ad cs r st') args s 0 0 (mm_A o ad)) (F0 m 122 ls []) := by
  unfold M_takesE_b122 at hf
  refine lv_aload_n C.1 C.2.1 (dd_at td_takesE 70 rfl) rfl (lv_at hl 0 rfl) ?_
  refine lv_iload_n C.1 C.2.1 (dd_at td_takesE 71 rfl) rfl (lv_at hl 2 rfl) ?_
  obtain ⟨st28, hx29, hf⟩ := fc_of_bv hf
  refine mm_cv (As := [.int x3]) (rest := []) (n := 1) C hM (c_settle l D o ad cs fu x3 st) (List.mem_of_getElem? (i := 36) rfl) (dd_at td_takesE 72 rfl) hx29 hl.1 hd_settle ⟨Nat.le_of_ble_eq_true rfl, Nat.le_of_ble_eq_true rfl⟩ rfl rfl (Nat.le_of_ble_eq_true rfl) ⟨Nat.le_refl 0, Nat.le_refl 0⟩ (fun H locs hM => ?_)
  refine lv_aload_n C.1 C.2.1 (dd_at td_takesE 73 rfl) rfl (lv_at hl 0 rfl) ?_
  refine mm_gA C hM 20 (dd_at td_takesE 74 rfl) (by decide) (by decide) (by decide) ?_
  refine lv_aload_n C.1 C.2.1 (dd_at td_takesE 75 rfl) rfl (lv_at hl 0 rfl) ?_
  refine mm_gI C hM 22 (dd_at td_takesE 76 rfl) (by decide) (by decide) (by decide) ?_
  refine lv_iload_n C.1 C.2.1 (dd_at td_takesE 77 rfl) rfl (lv_at hl 2 rfl) ?_
  obtain ⟨g30, hf⟩ := fc_of_gd hf
  refine mm_iast C hM 20 (dd_at td_takesE 78 rfl) (by decide) (by decide) (fc_of_ix g30) (fun st31 H locs est31 hM => ?_)
  replace hf := fc_of_nm hf st31 est31
  refine lv_aload_n C.1 C.2.1 (dd_at td_takesE 79 rfl) rfl (lv_at hl 0 rfl) ?_
  refine lv_dup C.1 C.2.1 (dd_at td_takesE 80 rfl) rfl ?_
  refine mm_gI C hM 22 (dd_at td_takesE 81 rfl) (by decide) (by decide) (by decide) ?_
  refine lv_iconst (v := (1 : Int32)) C.1 C.2.1 (dd_at td_takesE 82 rfl) (by decide) ?_
  refine lv_iadd C.1 C.2.1 (dd_at td_takesE 83 rfl) ?_
  refine mm_pI C hM 22 (dd_at td_takesE 84 rfl) (by decide) (by decide) (by decide) rfl rfl (fun st32 H locs est32 hM => ?_)
  replace hf := fc_of_nm hf st32 est32
  refine lv_iconst (v := (1 : Int32)) C.1 C.2.1 (dd_at td_takesE 85 rfl) (by decide) ?_
  refine lv_istore_n (lv' := [(2, .int (1 : Int32)), (0, .ref o), (1, .int x1), (3, .int x3)]) C.1 C.2.1 (dd_at td_takesE 86 rfl) rfl hl (by decide) rfl (fun ls hl => ?_)
  refine lv_aload_n C.1 C.2.1 (dd_at td_takesE 87 rfl) rfl (lv_at hl 1 rfl) ?_
  refine lv_dup C.1 C.2.1 (dd_at td_takesE 88 rfl) rfl ?_
  refine mm_gI C hM 11 (dd_at td_takesE 89 rfl) (by decide) (by decide) (by decide) ?_
  refine lv_iconst (v := (1 : Int32)) C.1 C.2.1 (dd_at td_takesE 90 rfl) (by decide) ?_
  refine lv_iadd C.1 C.2.1 (dd_at td_takesE 91 rfl) ?_
  refine mm_pI C hM 11 (dd_at td_takesE 92 rfl) (by decide) (by decide) (by decide) rfl rfl (fun st33 H locs est33 hM => ?_)
  replace hf := fc_of_nm hf st33 est33
  refine lv_goto (tgt := 22) C.1 C.2.1 (dd_at td_takesE 93 rfl) (by decide) ?_
  exact hK22 x1 (1 : Int32) st33 _ _ _ hf (lv_sub hl [1, 2, 0] rfl) hM
theorem w_takesE_b43 {p : Program} {l : Launch} {e : Env} {s : State} {m : MethodId} {args : Array Value} {below : List Frame} {meth : Method} {c : Code} {D : va_G} {o : Nat} {ad : Nat → Nat} {cs : ClassId × ClassId × ClassId} {r : Int32} {st' : mm_S} (C : mm_C p s m args meth c cX12_takesE 4 (some .boolean) D cs) (fu : Nat) (K22 : Int32 → Int32 → mm_S → Option (Int32 × mm_S)) (hK22 : ∀ (x1 : Int32) (x2 : Int32) (st : mm_S) (H : Heap) (locs : List Loc) (ls : Array Slot), K22 x1 x2 st = some (r, st') → lv_has ls 4 [(0, .ref o), (1, .int x1), (2, .int x2)] → mm_H D o ad cs s.heap st H locs → W p l e (mm_R 4 86) s m args below meth c H locs 0 0 (MQ below (mm_Qi D o ad cs r st') args s 0 0 (mm_A o ad)) (F0 m 22 ls [])) (x1 : Int32) (x2 : Int32) (x3 : Int32) (st : mm_S) (hf : M_takesE_b43 fu K22 x1 x2 x3 st = some (r, st')) {H : Heap} {locs : List Loc} {ls : Array Slot} (hl : lv_has ls 4 [(0, .ref o), (1, .int x1), (2, .int x2), (3, .int x3)]) (hM : mm_H D o ad cs s.heap st H locs) : W p l e (mm_R 4 86) s m args below meth c H locs 0 0 (MQ below (mm_Qi D o ad cs r st') args s 0 0 (mm_A o ad)) (F0 m 43 ls []) := by
  unfold M_takesE_b43 at hf
  refine lv_aload_n C.1 C.2.1 (dd_at td_takesE 25 rfl) rfl (lv_at hl 0 rfl) ?_
  refine mm_gI C hM 23 (dd_at td_takesE 26 rfl) (by decide) (by decide) (by decide) ?_
  refine lv_iconst (v := (4 : Int32)) C.1 C.2.1 (dd_at td_takesE 27 rfl) (by decide) ?_
  refine lv_icmp_ne (tgt := 53) C.1 C.2.1 (dd_at td_takesE 28 rfl) (by decide) (fun c34 => ?_) (fun c34 => ?_)
  · replace hf := fc_of_f hf c34
    refine lv_aload_n C.1 C.2.1 (dd_at td_takesE 31 rfl) rfl (lv_at hl 0 rfl) ?_
    refine lv_dup C.1 C.2.1 (dd_at td_takesE 32 rfl) rfl ?_
    refine mm_gI C hM 23 (dd_at td_takesE 33 rfl) (by decide) (by decide) (by decide) ?_
    refine lv_iconst (v := (1 : Int32)) C.1 C.2.1 (dd_at td_takesE 34 rfl) (by decide) ?_
    refine lv_iadd C.1 C.2.1 (dd_at td_takesE 35 rfl) ?_
    refine mm_pI C hM 23 (dd_at td_takesE 36 rfl) (by decide) (by decide) (by decide) rfl rfl (fun st35 H locs est35 hM => ?_)
    replace hf := fc_of_nm hf st35 est35
    refine lv_aload_n C.1 C.2.1 (dd_at td_takesE 37 rfl) rfl (lv_at hl 0 rfl) ?_
    refine mm_gA C hM 20 (dd_at td_takesE 38 rfl) (by decide) (by decide) (by decide) ?_
    refine lv_aload_n C.1 C.2.1 (dd_at td_takesE 39 rfl) rfl (lv_at hl 0 rfl) ?_
    refine mm_gI C hM 22 (dd_at td_takesE 40 rfl) (by decide) (by decide) (by decide) ?_
    refine lv_iload_n C.1 C.2.1 (dd_at td_takesE 41 rfl) rfl (lv_at hl 3 rfl) ?_
    obtain ⟨g36, hf⟩ := fc_of_gd hf
    refine mm_iast C hM 20 (dd_at td_takesE 42 rfl) (by decide) (by decide) (fc_of_ix g36) (fun st37 H locs est37 hM => ?_)
    replace hf := fc_of_nm hf st37 est37
    refine lv_aload_n C.1 C.2.1 (dd_at td_takesE 43 rfl) rfl (lv_at hl 0 rfl) ?_
    refine lv_dup C.1 C.2.1 (dd_at td_takesE 44 rfl) rfl ?_
    refine mm_gI C hM 22 (dd_at td_takesE 45 rfl) (by decide) (by decide) (by decide) ?_
    refine lv_iconst (v := (1 : Int32)) C.1 C.2.1 (dd_at td_takesE 46 rfl) (by decide) ?_
    refine lv_iadd C.1 C.2.1 (dd_at td_takesE 47 rfl) ?_
    refine mm_pI C hM 22 (dd_at td_takesE 48 rfl) (by decide) (by decide) (by decide) rfl rfl (fun st38 H locs est38 hM => ?_)
    replace hf := fc_of_nm hf st38 est38
    refine lv_aload_n C.1 C.2.1 (dd_at td_takesE 49 rfl) rfl (lv_at hl 0 rfl) ?_
    refine lv_dup C.1 C.2.1 (dd_at td_takesE 50 rfl) rfl ?_
    refine mm_gI C hM 11 (dd_at td_takesE 51 rfl) (by decide) (by decide) (by decide) ?_
    refine lv_iconst (v := (1 : Int32)) C.1 C.2.1 (dd_at td_takesE 52 rfl) (by decide) ?_
    refine lv_iadd C.1 C.2.1 (dd_at td_takesE 53 rfl) ?_
    refine mm_pI C hM 11 (dd_at td_takesE 54 rfl) (by decide) (by decide) (by decide) rfl rfl (fun st39 H locs est39 hM => ?_)
    replace hf := fc_of_nm hf st39 est39
    refine lv_goto (tgt := 22) C.1 C.2.1 (dd_at td_takesE 55 rfl) (by decide) ?_
    exact hK22 x1 x2 st39 _ _ _ hf (lv_sub hl [0, 1, 2] rfl) hM
  · replace hf := fc_of_t hf c34
    refine lv_iconst (v := (0 : Int32)) C.1 C.2.1 (dd_at td_takesE 29 rfl) (by decide) ?_
    exact mm_rz C hM (dd_at td_takesE 30 rfl) rfl hf
theorem w_takesE_b22F {p : Program} {l : Launch} {e : Env} {s : State} {m : MethodId} {args : Array Value} {below : List Frame} {meth : Method} {c : Code} {D : va_G} {o : Nat} {ad : Nat → Nat} {cs : ClassId × ClassId × ClassId} {r : Int32} {st' : mm_S} (C : mm_C p s m args meth c cX12_takesE 4 (some .boolean) D cs) (fu : Nat) (K22 : Int32 → Int32 → mm_S → Option (Int32 × mm_S)) (hK22 : ∀ (x1 : Int32) (x2 : Int32) (st : mm_S) (H : Heap) (locs : List Loc) (ls : Array Slot), K22 x1 x2 st = some (r, st') → lv_has ls 4 [(0, .ref o), (1, .int x1), (2, .int x2)] → mm_H D o ad cs s.heap st H locs → W p l e (mm_R 4 86) s m args below meth c H locs 0 0 (MQ below (mm_Qi D o ad cs r st') args s 0 0 (mm_A o ad)) (F0 m 22 ls [])) (x1 : Int32) (x2 : Int32) (st : mm_S) (hf : M_takesE_b22F fu K22 x1 x2 st = some (r, st')) {H : Heap} {locs : List Loc} {ls : Array Slot} (hl : lv_has ls 4 [(0, .ref o), (1, .int x1), (2, .int x2)]) (hM : mm_H D o ad cs s.heap st H locs) : W p l e (mm_R 4 86) s m args below meth c H locs 0 0 (MQ below (mm_Qi D o ad cs r st') args s 0 0 (mm_A o ad)) (F0 m 22 ls []) := by
  unfold M_takesE_b22F at hf
  refine lv_aload_n C.1 C.2.1 (dd_at td_takesE 14 rfl) rfl (lv_at hl 0 rfl) ?_
  obtain ⟨r7, st5, hx6, hf⟩ := fc_of_bn hf
  refine mm_ci (As := []) (rest := []) (n := 0) C hM (c_next l D o ad cs fu st) (List.mem_of_getElem? (i := 33) rfl) (dd_at td_takesE 15 rfl) hx6 hl.1 hd_next ⟨Nat.le_of_ble_eq_true rfl, Nat.le_of_ble_eq_true rfl⟩ rfl rfl (Nat.le_of_ble_eq_true rfl) ⟨Nat.le_refl 0, Nat.le_refl 0⟩ (fun H locs hM => ?_)
  refine lv_istore_n (lv' := [(3, .int r7), (0, .ref o), (1, .int x1), (2, .int x2)]) C.1 C.2.1 (dd_at td_takesE 16 rfl) rfl hl (by decide) rfl (fun ls hl => ?_)
  refine lv_iload_n C.1 C.2.1 (dd_at td_takesE 17 rfl) rfl (lv_at hl 3 rfl) ?_
  refine lv_if_eq (tgt := 110) C.1 C.2.1 (dd_at td_takesE 18 rfl) (by decide) (fun c8 => ?_) (fun c8 => ?_)
  · replace hf := fc_of_t hf c8
    refine lv_iload_n C.1 C.2.1 (dd_at td_takesE 64 rfl) rfl (lv_at hl 0 rfl) ?_
    refine lv_bipush (v := (38 : Int32)) C.1 C.2.1 (dd_at td_takesE 65 rfl) (by decide) ?_
    refine lv_icmp_eq (tgt := 122) C.1 C.2.1 (dd_at td_takesE 66 rfl) (by decide) (fun c9 => ?_) (fun c9 => ?_)
    · replace hf := fc_of_t hf c9
      exact w_takesE_b122 C fu K22 hK22 x1 r7 st5 hf (lv_sub hl [1, 2, 0] rfl) hM
    · replace hf := fc_of_f hf c9
      refine lv_iload_n C.1 C.2.1 (dd_at td_takesE 67 rfl) rfl (lv_at hl 0 rfl) ?_
      refine lv_bipush (v := (124 : Int32)) C.1 C.2.1 (dd_at td_takesE 68 rfl) (by decide) ?_
      refine lv_icmp_ne (tgt := 162) C.1 C.2.1 (dd_at td_takesE 69 rfl) (by decide) (fun c10 => ?_) (fun c10 => ?_)
      · replace hf := fc_of_f hf c10
        refine lv_aload_n C.1 C.2.1 (dd_at td_takesE 94 rfl) rfl (lv_at hl 1 rfl) ?_
        refine lv_bipush (v := (124 : Int32)) C.1 C.2.1 (dd_at td_takesE 95 rfl) (by decide) ?_
        obtain ⟨st11, hx12, hf⟩ := fc_of_bv hf
        refine mm_cv (As := [.int (124 : Int32)]) (rest := []) (n := 1) C hM (c_settle l D o ad cs fu (124 : Int32) st5) (List.mem_of_getElem? (i := 36) rfl) (dd_at td_takesE 96 rfl) hx12 hl.1 hd_settle ⟨Nat.le_of_ble_eq_true rfl, Nat.le_of_ble_eq_true rfl⟩ rfl rfl (Nat.le_of_ble_eq_true rfl) ⟨Nat.le_refl 0, Nat.le_refl 0⟩ (fun H locs hM => ?_)
        refine lv_aload_n C.1 C.2.1 (dd_at td_takesE 97 rfl) rfl (lv_at hl 1 rfl) ?_
        refine mm_gA C hM 18 (dd_at td_takesE 98 rfl) (by decide) (by decide) (by decide) ?_
        refine lv_iload_n C.1 C.2.1 (dd_at td_takesE 99 rfl) rfl (lv_at hl 2 rfl) ?_
        refine lv_aload_n C.1 C.2.1 (dd_at td_takesE 100 rfl) rfl (lv_at hl 1 rfl) ?_
        refine mm_gI C hM 21 (dd_at td_takesE 101 rfl) (by decide) (by decide) (by decide) ?_
        obtain ⟨g13, hf⟩ := fc_of_gd hf
        refine mm_iast C hM 18 (dd_at td_takesE 102 rfl) (by decide) (by decide) (fc_of_ix g13) (fun st14 H locs est14 hM => ?_)
        replace hf := fc_of_nm hf st14 est14
        refine lv_aload_n C.1 C.2.1 (dd_at td_takesE 103 rfl) rfl (lv_at hl 1 rfl) ?_
        refine mm_gI C hM 22 (dd_at td_takesE 104 rfl) (by decide) (by decide) (by decide) ?_
        refine lv_if_ne (tgt := 187) C.1 C.2.1 (dd_at td_takesE 105 rfl) (by decide) (fun c15 => ?_) (fun c15 => ?_)
        · replace hf := fc_of_f hf c15
          refine lv_iload_n C.1 C.2.1 (dd_at td_takesE 108 rfl) rfl (lv_at hl 0 rfl) ?_
          refine lv_bipush (v := (41 : Int32)) C.1 C.2.1 (dd_at td_takesE 109 rfl) (by decide) ?_
          refine lv_icmp_eq (tgt := 195) C.1 C.2.1 (dd_at td_takesE 110 rfl) (by decide) (fun c16 => ?_) (fun c16 => ?_)
          · replace hf := fc_of_t hf c16
            refine lv_aload_n C.1 C.2.1 (dd_at td_takesE 113 rfl) rfl (lv_at hl 1 rfl) ?_
            refine lv_dup C.1 C.2.1 (dd_at td_takesE 114 rfl) rfl ?_
            refine mm_gI C hM 22 (dd_at td_takesE 115 rfl) (by decide) (by decide) (by decide) ?_
            refine lv_iconst (v := (1 : Int32)) C.1 C.2.1 (dd_at td_takesE 116 rfl) (by decide) ?_
            refine lv_isub C.1 C.2.1 (dd_at td_takesE 117 rfl) ?_
            refine mm_pI C hM 22 (dd_at td_takesE 118 rfl) (by decide) (by decide) (by decide) rfl rfl (fun st17 H locs est17 hM => ?_)
            replace hf := fc_of_nm hf st17 est17
            refine lv_aload_n C.1 C.2.1 (dd_at td_takesE 119 rfl) rfl (lv_at hl 1 rfl) ?_
            refine lv_dup C.1 C.2.1 (dd_at td_takesE 120 rfl) rfl ?_
            refine mm_gI C hM 23 (dd_at td_takesE 121 rfl) (by decide) (by decide) (by decide) ?_
            refine lv_iconst (v := (1 : Int32)) C.1 C.2.1 (dd_at td_takesE 122 rfl) (by decide) ?_
            refine lv_isub C.1 C.2.1 (dd_at td_takesE 123 rfl) ?_
            refine mm_pI C hM 23 (dd_at td_takesE 124 rfl) (by decide) (by decide) (by decide) rfl rfl (fun st18 H locs est18 hM => ?_)
            replace hf := fc_of_nm hf st18 est18
            refine lv_aload_n C.1 C.2.1 (dd_at td_takesE 125 rfl) rfl (lv_at hl 1 rfl) ?_
            refine lv_dup C.1 C.2.1 (dd_at td_takesE 126 rfl) rfl ?_
            refine mm_gI C hM 11 (dd_at td_takesE 127 rfl) (by decide) (by decide) (by decide) ?_
            refine lv_iconst (v := (1 : Int32)) C.1 C.2.1 (dd_at td_takesE 128 rfl) (by decide) ?_
            refine lv_iadd C.1 C.2.1 (dd_at td_takesE 129 rfl) ?_
            refine mm_pI C hM 11 (dd_at td_takesE 130 rfl) (by decide) (by decide) (by decide) rfl rfl (fun st19 H locs est19 hM => ?_)
            replace hf := fc_of_nm hf st19 est19
            refine lv_aload_n C.1 C.2.1 (dd_at td_takesE 131 rfl) rfl (lv_at hl 1 rfl) ?_
            obtain ⟨st20, hx21, hf⟩ := fc_of_bv hf
            refine mm_cv (As := []) (rest := []) (n := 0) C hM (c_whole l D o ad cs fu st19) (List.mem_of_getElem? (i := 47) rfl) (dd_at td_takesE 132 rfl) hx21 hl.1 hd_whole ⟨Nat.le_of_ble_eq_true rfl, Nat.le_of_ble_eq_true rfl⟩ rfl rfl (Nat.le_of_ble_eq_true rfl) ⟨Nat.le_refl 0, Nat.le_refl 0⟩ (fun H locs hM => ?_)
            refine lv_goto (tgt := 22) C.1 C.2.1 (dd_at td_takesE 133 rfl) (by decide) ?_
            exact hK22 x1 x2 st20 _ _ _ hf (lv_sub hl [1, 2, 3] rfl) hM
          · replace hf := fc_of_f hf c16
            refine lv_iconst (v := (0 : Int32)) C.1 C.2.1 (dd_at td_takesE 111 rfl) (by decide) ?_
            exact mm_rz C hM (dd_at td_takesE 112 rfl) rfl hf
        · replace hf := fc_of_t hf c15
          refine lv_iconst (v := (1 : Int32)) C.1 C.2.1 (dd_at td_takesE 106 rfl) (by decide) ?_
          exact mm_rz C hM (dd_at td_takesE 107 rfl) rfl hf
      · replace hf := fc_of_t hf c10
        exact w_takesE_b122 C fu K22 hK22 x1 r7 st5 hf (lv_sub hl [1, 2, 0] rfl) hM
  · replace hf := fc_of_f hf c8
    refine lv_iload_n C.1 C.2.1 (dd_at td_takesE 19 rfl) rfl (lv_at hl 0 rfl) ?_
    refine lv_bipush (v := (33 : Int32)) C.1 C.2.1 (dd_at td_takesE 20 rfl) (by decide) ?_
    refine lv_icmp_eq (tgt := 43) C.1 C.2.1 (dd_at td_takesE 21 rfl) (by decide) (fun c22 => ?_) (fun c22 => ?_)
    · replace hf := fc_of_t hf c22
      exact w_takesE_b43 C fu K22 hK22 x1 x2 r7 st5 hf (lv_sub hl [1, 2, 3, 0] rfl) hM
    · replace hf := fc_of_f hf c22
      refine lv_iload_n C.1 C.2.1 (dd_at td_takesE 22 rfl) rfl (lv_at hl 0 rfl) ?_
      refine lv_bipush (v := (40 : Int32)) C.1 C.2.1 (dd_at td_takesE 23 rfl) (by decide) ?_
      refine lv_icmp_ne (tgt := 96) C.1 C.2.1 (dd_at td_takesE 24 rfl) (by decide) (fun c23 => ?_) (fun c23 => ?_)
      · replace hf := fc_of_f hf c23
        refine lv_aload_n C.1 C.2.1 (dd_at td_takesE 56 rfl) rfl (lv_at hl 1 rfl) ?_
        obtain ⟨r26, st24, hx25, hf⟩ := fc_of_bn hf
        refine mm_ci (As := []) (rest := []) (n := 0) C hM (c_takesTest l D o ad cs fu st5) (List.mem_of_getElem? (i := 43) rfl) (dd_at td_takesE 57 rfl) hx25 hl.1 hd_takesTest ⟨Nat.le_of_ble_eq_true rfl, Nat.le_of_ble_eq_true rfl⟩ rfl rfl (Nat.le_of_ble_eq_true rfl) ⟨Nat.le_refl 0, Nat.le_refl 0⟩ (fun H locs hM => ?_)
        refine lv_if_eq (tgt := 108) C.1 C.2.1 (dd_at td_takesE 58 rfl) (by decide) (fun c27 => ?_) (fun c27 => ?_)
        · replace hf := fc_of_t hf c27
          refine lv_iconst (v := (0 : Int32)) C.1 C.2.1 (dd_at td_takesE 62 rfl) (by decide) ?_
          exact mm_rz C hM (dd_at td_takesE 63 rfl) rfl hf
        · replace hf := fc_of_f hf c27
          refine lv_iconst (v := (0 : Int32)) C.1 C.2.1 (dd_at td_takesE 59 rfl) (by decide) ?_
          refine lv_istore_n (lv' := [(2, .int (0 : Int32)), (3, .int r7), (0, .ref o), (1, .int x1)]) C.1 C.2.1 (dd_at td_takesE 60 rfl) rfl hl (by decide) rfl (fun ls hl => ?_)
          refine lv_goto (tgt := 22) C.1 C.2.1 (dd_at td_takesE 61 rfl) (by decide) ?_
          exact hK22 x1 (0 : Int32) st24 _ _ _ hf (lv_sub hl [2, 3, 0] rfl) hM
      · replace hf := fc_of_t hf c23
        exact w_takesE_b43 C fu K22 hK22 x1 x2 r7 st5 hf (lv_sub hl [1, 2, 3, 0] rfl) hM
theorem w_takesE_b22 {p : Program} {l : Launch} {e : Env} {s : State} {m : MethodId} {args : Array Value} {below : List Frame} {meth : Method} {c : Code} {D : va_G} {o : Nat} {ad : Nat → Nat} {cs : ClassId × ClassId × ClassId} {r : Int32} {st' : mm_S} (C : mm_C p s m args meth c cX12_takesE 4 (some .boolean) D cs) (fu : Nat) (n : Nat) : ∀ (x1 : Int32) (x2 : Int32) (st : mm_S), M_takesE_b22 fu n x1 x2 st = some (r, st') → ∀ (H : Heap) (locs : List Loc) (ls : Array Slot), lv_has ls 4 [(0, .ref o), (1, .int x1), (2, .int x2)] → mm_H D o ad cs s.heap st H locs → W p l e (mm_R 4 86) s m args below meth c H locs 0 0 (MQ below (mm_Qi D o ad cs r st') args s 0 0 (mm_A o ad)) (F0 m 22 ls []) := by
  induction n with
  | zero => exact fun _ _ _ hf => fc_no hf
  | succ n ih =>
    intro x1 x2 st hf H locs ls hl hM
    exact w_takesE_b22F C fu (fun x1 x2 st => M_takesE_b22 fu n x1 x2 st) (fun x1 x2 st H locs ls hf hl hM => ih x1 x2 st hf H locs ls hl hM) x1 x2 st hf hl hM
theorem w_takesE {p : Program} {l : Launch} {e : Env} {s : State} {m : MethodId} {args : Array Value} {below : List Frame} {meth : Method} {c : Code} {D : va_G} {o : Nat} {ad : Nat → Nat} {cs : ClassId × ClassId × ClassId} {r : Int32} {st' : mm_S} (C : mm_C p s m args meth c cX12_takesE 4 (some .boolean) D cs) (fu : Nat) (x1 : Int32) (st : mm_S) (hf : M_takesE fu x1 st = some (r, st')) {H : Heap} {locs : List Loc} {ls : Array Slot} (hl : lv_has ls 4 [(0, .ref o), (1, .int x1)]) (hM : mm_H D o ad cs s.heap st H locs) : W p l e (mm_R 4 86) s m args below meth c H locs 0 0 (MQ below (mm_Qi D o ad cs r st') args s 0 0 (mm_A o ad)) (F0 m 0 ls []) := by
  unfold M_takesE at hf
  refine lv_aload_n C.1 C.2.1 (dd_at td_takesE 0 rfl) rfl (lv_at hl 0 rfl) ?_
  refine lv_iconst (v := (0 : Int32)) C.1 C.2.1 (dd_at td_takesE 1 rfl) (by decide) ?_
  refine mm_pI C hM 22 (dd_at td_takesE 2 rfl) (by decide) (by decide) (by decide) rfl rfl (fun st1 H locs est1 hM => ?_)
  replace hf := fc_of_nm hf st1 est1
  refine lv_aload_n C.1 C.2.1 (dd_at td_takesE 3 rfl) rfl (lv_at hl 0 rfl) ?_
  refine lv_iconst (v := (0 : Int32)) C.1 C.2.1 (dd_at td_takesE 4 rfl) (by decide) ?_
  refine mm_pI C hM 23 (dd_at td_takesE 5 rfl) (by decide) (by decide) (by decide) rfl rfl (fun st2 H locs est2 hM => ?_)
  replace hf := fc_of_nm hf st2 est2
  refine lv_aload_n C.1 C.2.1 (dd_at td_takesE 6 rfl) rfl (lv_at hl 0 rfl) ?_
  refine mm_gA C hM 17 (dd_at td_takesE 7 rfl) (by decide) (by decide) (by decide) ?_
  refine lv_iload_n C.1 C.2.1 (dd_at td_takesE 8 rfl) rfl (lv_at hl 1 rfl) ?_
  refine lv_aload_n C.1 C.2.1 (dd_at td_takesE 9 rfl) rfl (lv_at hl 0 rfl) ?_
  refine mm_gI C hM 21 (dd_at td_takesE 10 rfl) (by decide) (by decide) (by decide) ?_
  obtain ⟨g3, hf⟩ := fc_of_gd hf
  refine mm_iast C hM 17 (dd_at td_takesE 11 rfl) (by decide) (by decide) (fc_of_ix g3) (fun st4 H locs est4 hM => ?_)
  replace hf := fc_of_nm hf st4 est4
  refine lv_iconst (v := (1 : Int32)) C.1 C.2.1 (dd_at td_takesE 12 rfl) (by decide) ?_
  refine lv_istore_n (lv' := [(2, .int (1 : Int32)), (0, .ref o), (1, .int x1)]) C.1 C.2.1 (dd_at td_takesE 13 rfl) rfl hl (by decide) rfl (fun ls hl => ?_)
  exact w_takesE_b22 C fu fu x1 (1 : Int32) st4 hf _ _ _ (lv_sub hl [1, 2, 0] rfl) hM
theorem c_takesE (l : Launch) (D : va_G) (o : Nat) (ad : Nat → Nat) (cs : ClassId × ClassId × ClassId) (fu : Nat) (x1 : Int32) (st : mm_S) : mm_Mi l D o ad cs yX12_takesE cX12_takesE 4 (some .boolean) 4 86 [.int x1] st (M_takesE fu x1 st) := by
  intro r st' hf
  refine mm_enter (cc := cX12_takesE) (nL := 4) (ret := some .boolean) (by decide) rfl (Nat.le_of_ble_eq_true rfl) ?_
  intro p e s m args below meth c ls C hl hM
  exact w_takesE C fu x1 st hf hl hM

/-! takesHead -/
def tb_takesHead : List (Nat × Instr × Nat) := [(0, .aload_n 0, 1), (1, .invokevirtual 218, 3), (4, .lookupswitch 56 #[(102, 28), (115, 42)], 28), (32, .aload_n 0, 1), (33, .getfield 56, 3), (36, .iload_n 1, 1), (37, .iconst 0, 1), (38, .iastore, 1), (39, .aload_n 0, 1), (40, .iconst 0, 1), (41, .iconst 4, 1), (42, .invokevirtual 249, 3), (45, .ireturn, 1), (46, .aload_n 0, 1), (47, .getfield 56, 3), (50, .iload_n 1, 1), (51, .iconst 1, 1), (52, .iastore, 1), (53, .aload_n 0, 1), (54, .iconst 4, 1), (55, .iconst 5, 1), (56, .invokevirtual 249, 3), (59, .ireturn, 1), (60, .aload_n 0, 1), (61, .getfield 56, 3), (64, .iload_n 1, 1), (65, .iconst 2, 1), (66, .iastore, 1), (67, .aload_n 0, 1), (68, .bipush 9, 2), (70, .iconst 4, 1), (71, .invokevirtual 249, 3), (74, .ireturn, 1)]
theorem td_takesHead : tb_takesHead.all (fun q => decide (decode cX12_takesHead q.1 = .ok (q.2.1, q.2.2))) = true := by decide +kernel
theorem hd_takesHead : yX12_takesHead.cls = RX12 ∧ yX12_takesHead.cls ≠ "java/lang/invoke/MethodHandle" ∧ yX12_takesHead.cls ≠ "java/lang/invoke/VarHandle" ∧ (parseMethodDescriptor yX12_takesHead.desc).map (fun d => d.parameters.length) = some 1 := by decide +kernel
theorem w_takesHead {p : Program} {l : Launch} {e : Env} {s : State} {m : MethodId} {args : Array Value} {below : List Frame} {meth : Method} {c : Code} {D : va_G} {o : Nat} {ad : Nat → Nat} {cs : ClassId × ClassId × ClassId} {r : Int32} {st' : mm_S} (C : mm_C p s m args meth c cX12_takesHead 2 (some .boolean) D cs) (fu : Nat) (x1 : Int32) (st : mm_S) (hf : M_takesHead fu x1 st = some (r, st')) {H : Heap} {locs : List Loc} {ls : Array Slot} (hl : lv_has ls 2 [(0, .ref o), (1, .int x1)]) (hM : mm_H D o ad cs s.heap st H locs) : W p l e (mm_R 3 64) s m args below meth c H locs 0 0 (MQ below (mm_Qi D o ad cs r st') args s 0 0 (mm_A o ad)) (F0 m 0 ls []) := by
  unfold M_takesHead at hf
  refine lv_aload_n C.1 C.2.1 (dd_at td_takesHead 0 rfl) rfl (lv_at hl 0 rfl) ?_
  obtain ⟨r3, st1, hx2, hf⟩ := fc_of_bn hf
  refine mm_ci (As := []) (rest := []) (n := 0) C hM (c_next l D o ad cs fu st) (List.mem_of_getElem? (i := 33) rfl) (dd_at td_takesHead 1 rfl) hx2 hl.1 hd_next ⟨Nat.le_of_ble_eq_true rfl, Nat.le_of_ble_eq_true rfl⟩ rfl rfl (Nat.le_of_ble_eq_true rfl) ⟨Nat.le_refl 0, Nat.le_refl 0⟩ (fun H locs hM => ?_)
  by_cases c4 : r3 = (102 : Int32)
  · replace hf := fc_of_t hf c4
    refine lv_lookup (off := 28) (tgt := 32) C.1 C.2.1 (dd_at td_takesHead 2 rfl) (by decide) (by rw [c4]; decide) (by decide) ?_
    refine lv_aload_n C.1 C.2.1 (dd_at td_takesHead 3 rfl) rfl (lv_at hl 0 rfl) ?_
    refine mm_gA C hM 15 (dd_at td_takesHead 4 rfl) (by decide) (by decide) (by decide) ?_
    refine lv_iload_n C.1 C.2.1 (dd_at td_takesHead 5 rfl) rfl (lv_at hl 1 rfl) ?_
    refine lv_iconst (v := (0 : Int32)) C.1 C.2.1 (dd_at td_takesHead 6 rfl) (by decide) ?_
    obtain ⟨g5, hf⟩ := fc_of_gd hf
    refine mm_iast C hM 15 (dd_at td_takesHead 7 rfl) (by decide) (by decide) (fc_of_ix g5) (fun st6 H locs est6 hM => ?_)
    replace hf := fc_of_nm hf st6 est6
    refine lv_aload_n C.1 C.2.1 (dd_at td_takesHead 8 rfl) rfl (lv_at hl 0 rfl) ?_
    refine lv_iconst (v := (0 : Int32)) C.1 C.2.1 (dd_at td_takesHead 9 rfl) (by decide) ?_
    refine lv_iconst (v := (4 : Int32)) C.1 C.2.1 (dd_at td_takesHead 10 rfl) (by decide) ?_
    obtain ⟨r9, st7, hx8, hf⟩ := fc_of_bn hf
    refine mm_ci (As := [.int (0 : Int32), .int (4 : Int32)]) (rest := []) (n := 2) C hM (c_takesWord l D o ad cs fu (0 : Int32) (4 : Int32) st6) (List.mem_of_getElem? (i := 44) rfl) (dd_at td_takesHead 11 rfl) hx8 hl.1 hd_takesWord ⟨Nat.le_of_ble_eq_true rfl, Nat.le_of_ble_eq_true rfl⟩ rfl rfl (Nat.le_of_ble_eq_true rfl) ⟨Nat.le_refl 0, Nat.le_refl 0⟩ (fun H locs hM => ?_)
    obtain ⟨g10, hf⟩ := fc_of_gd hf
    exact mm_rz C hM (dd_at td_takesHead 12 rfl) (fc_of_zb g10) hf
  · replace hf := fc_of_f hf c4
    by_cases c11 : r3 = (115 : Int32)
    · replace hf := fc_of_t hf c11
      refine lv_lookup (off := 42) (tgt := 46) C.1 C.2.1 (dd_at td_takesHead 2 rfl) (by decide) (by rw [c11]; decide) (by decide) ?_
      refine lv_aload_n C.1 C.2.1 (dd_at td_takesHead 13 rfl) rfl (lv_at hl 0 rfl) ?_
      refine mm_gA C hM 15 (dd_at td_takesHead 14 rfl) (by decide) (by decide) (by decide) ?_
      refine lv_iload_n C.1 C.2.1 (dd_at td_takesHead 15 rfl) rfl (lv_at hl 1 rfl) ?_
      refine lv_iconst (v := (1 : Int32)) C.1 C.2.1 (dd_at td_takesHead 16 rfl) (by decide) ?_
      obtain ⟨g12, hf⟩ := fc_of_gd hf
      refine mm_iast C hM 15 (dd_at td_takesHead 17 rfl) (by decide) (by decide) (fc_of_ix g12) (fun st13 H locs est13 hM => ?_)
      replace hf := fc_of_nm hf st13 est13
      refine lv_aload_n C.1 C.2.1 (dd_at td_takesHead 18 rfl) rfl (lv_at hl 0 rfl) ?_
      refine lv_iconst (v := (4 : Int32)) C.1 C.2.1 (dd_at td_takesHead 19 rfl) (by decide) ?_
      refine lv_iconst (v := (5 : Int32)) C.1 C.2.1 (dd_at td_takesHead 20 rfl) (by decide) ?_
      obtain ⟨r16, st14, hx15, hf⟩ := fc_of_bn hf
      refine mm_ci (As := [.int (4 : Int32), .int (5 : Int32)]) (rest := []) (n := 2) C hM (c_takesWord l D o ad cs fu (4 : Int32) (5 : Int32) st13) (List.mem_of_getElem? (i := 44) rfl) (dd_at td_takesHead 21 rfl) hx15 hl.1 hd_takesWord ⟨Nat.le_of_ble_eq_true rfl, Nat.le_of_ble_eq_true rfl⟩ rfl rfl (Nat.le_of_ble_eq_true rfl) ⟨Nat.le_refl 0, Nat.le_refl 0⟩ (fun H locs hM => ?_)
      obtain ⟨g17, hf⟩ := fc_of_gd hf
      exact mm_rz C hM (dd_at td_takesHead 22 rfl) (fc_of_zb g17) hf
    · replace hf := fc_of_f hf c11
      refine lv_lookup (off := 56) (tgt := 60) C.1 C.2.1 (dd_at td_takesHead 2 rfl) (by decide) (by show Op.lookupswitch.offset [(102, 28), (115, 42)] 56 _ = _; rw [lv_osw c4 (by decide), lv_osw c11 (by decide)]; rfl) (by decide) ?_
      refine lv_aload_n C.1 C.2.1 (dd_at td_takesHead 23 rfl) rfl (lv_at hl 0 rfl) ?_
      refine mm_gA C hM 15 (dd_at td_takesHead 24 rfl) (by decide) (by decide) (by decide) ?_
      refine lv_iload_n C.1 C.2.1 (dd_at td_takesHead 25 rfl) rfl (lv_at hl 1 rfl) ?_
      refine lv_iconst (v := (2 : Int32)) C.1 C.2.1 (dd_at td_takesHead 26 rfl) (by decide) ?_
      obtain ⟨g18, hf⟩ := fc_of_gd hf
      refine mm_iast C hM 15 (dd_at td_takesHead 27 rfl) (by decide) (by decide) (fc_of_ix g18) (fun st19 H locs est19 hM => ?_)
      replace hf := fc_of_nm hf st19 est19
      refine lv_aload_n C.1 C.2.1 (dd_at td_takesHead 28 rfl) rfl (lv_at hl 0 rfl) ?_
      refine lv_bipush (v := (9 : Int32)) C.1 C.2.1 (dd_at td_takesHead 29 rfl) (by decide) ?_
      refine lv_iconst (v := (4 : Int32)) C.1 C.2.1 (dd_at td_takesHead 30 rfl) (by decide) ?_
      obtain ⟨r22, st20, hx21, hf⟩ := fc_of_bn hf
      refine mm_ci (As := [.int (9 : Int32), .int (4 : Int32)]) (rest := []) (n := 2) C hM (c_takesWord l D o ad cs fu (9 : Int32) (4 : Int32) st19) (List.mem_of_getElem? (i := 44) rfl) (dd_at td_takesHead 31 rfl) hx21 hl.1 hd_takesWord ⟨Nat.le_of_ble_eq_true rfl, Nat.le_of_ble_eq_true rfl⟩ rfl rfl (Nat.le_of_ble_eq_true rfl) ⟨Nat.le_refl 0, Nat.le_refl 0⟩ (fun H locs hM => ?_)
      obtain ⟨g23, hf⟩ := fc_of_gd hf
      exact mm_rz C hM (dd_at td_takesHead 32 rfl) (fc_of_zb g23) hf
theorem c_takesHead (l : Launch) (D : va_G) (o : Nat) (ad : Nat → Nat) (cs : ClassId × ClassId × ClassId) (fu : Nat) (x1 : Int32) (st : mm_S) : mm_Mi l D o ad cs yX12_takesHead cX12_takesHead 2 (some .boolean) 3 64 [.int x1] st (M_takesHead fu x1 st) := by
  intro r st' hf
  refine mm_enter (cc := cX12_takesHead) (nL := 2) (ret := some .boolean) (by decide) rfl (Nat.le_of_ble_eq_true rfl) ?_
  intro p e s m args below meth c ls C hl hM
  exact w_takesHead C fu x1 st hf hl hM

/-! takesClause -/
def tb_takesClause : List (Nat × Instr × Nat) := [(0, .aload_n 0, 1), (1, .iload_n 1, 1), (2, .invokevirtual 252, 3), (5, .ifCond .eq 10, 3), (8, .aload_n 0, 1), (9, .invokevirtual 237, 3), (12, .ifCond .ne 5, 3), (15, .iconst 0, 1), (16, .ireturn, 1), (17, .aload_n 0, 1), (18, .getfield 59, 3), (21, .iload_n 1, 1), (22, .aload_n 0, 1), (23, .getfield 47, 3), (26, .iastore, 1), (27, .aload_n 0, 1), (28, .getfield 56, 3), (31, .iload_n 1, 1), (32, .iaload, 1), (33, .iconst 2, 1), (34, .if_icmp .eq 20, 3), (37, .aload_n 0, 1), (38, .bipush 32, 2), (40, .invokevirtual 222, 3), (43, .ifCond .eq 15, 3), (46, .aload_n 0, 1), (47, .iload_n 1, 1), (48, .invokevirtual 255, 3), (51, .ifCond .eq 7, 3), (54, .iconst 1, 1), (55, .goto 4, 3), (58, .iconst 0, 1), (59, .ireturn, 1)]
theorem td_takesClause : tb_takesClause.all (fun q => decide (decode cX12_takesClause q.1 = .ok (q.2.1, q.2.2))) = true := by decide +kernel
theorem hd_takesClause : yX12_takesClause.cls = RX12 ∧ yX12_takesClause.cls ≠ "java/lang/invoke/MethodHandle" ∧ yX12_takesClause.cls ≠ "java/lang/invoke/VarHandle" ∧ (parseMethodDescriptor yX12_takesClause.desc).map (fun d => d.parameters.length) = some 1 := by decide +kernel
theorem w_takesClause {p : Program} {l : Launch} {e : Env} {s : State} {m : MethodId} {args : Array Value} {below : List Frame} {meth : Method} {c : Code} {D : va_G} {o : Nat} {ad : Nat → Nat} {cs : ClassId × ClassId × ClassId} {r : Int32} {st' : mm_S} (C : mm_C p s m args meth c cX12_takesClause 2 (some .boolean) D cs) (fu : Nat) (x1 : Int32) (st : mm_S) (hf : M_takesClause fu x1 st = some (r, st')) {H : Heap} {locs : List Loc} {ls : Array Slot} (hl : lv_has ls 2 [(0, .ref o), (1, .int x1)]) (hM : mm_H D o ad cs s.heap st H locs) : W p l e (mm_R 5 109) s m args below meth c H locs 0 0 (MQ below (mm_Qi D o ad cs r st') args s 0 0 (mm_A o ad)) (F0 m 0 ls []) := by
  unfold M_takesClause at hf
  refine lv_aload_n C.1 C.2.1 (dd_at td_takesClause 0 rfl) rfl (lv_at hl 0 rfl) ?_
  refine lv_iload_n C.1 C.2.1 (dd_at td_takesClause 1 rfl) rfl (lv_at hl 1 rfl) ?_
  obtain ⟨r3, st1, hx2, hf⟩ := fc_of_bn hf
  refine mm_ci (As := [.int x1]) (rest := []) (n := 1) C hM (c_takesHead l D o ad cs fu x1 st) (List.mem_of_getElem? (i := 41) rfl) (dd_at td_takesClause 2 rfl) hx2 hl.1 hd_takesHead ⟨Nat.le_of_ble_eq_true rfl, Nat.le_of_ble_eq_true rfl⟩ rfl rfl (Nat.le_of_ble_eq_true rfl) ⟨Nat.le_refl 0, Nat.le_refl 0⟩ (fun H locs hM => ?_)
  refine lv_if_eq (tgt := 15) C.1 C.2.1 (dd_at td_takesClause 3 rfl) (by decide) (fun c4 => ?_) (fun c4 => ?_)
  · replace hf := fc_of_t hf c4
    refine lv_iconst (v := (0 : Int32)) C.1 C.2.1 (dd_at td_takesClause 7 rfl) (by decide) ?_
    exact mm_rz C hM (dd_at td_takesClause 8 rfl) rfl hf
  · replace hf := fc_of_f hf c4
    refine lv_aload_n C.1 C.2.1 (dd_at td_takesClause 4 rfl) rfl (lv_at hl 0 rfl) ?_
    obtain ⟨r7, st5, hx6, hf⟩ := fc_of_bn hf
    refine mm_ci (As := []) (rest := []) (n := 0) C hM (c_takesNumber l D o ad cs fu st1) (List.mem_of_getElem? (i := 42) rfl) (dd_at td_takesClause 5 rfl) hx6 hl.1 hd_takesNumber ⟨Nat.le_of_ble_eq_true rfl, Nat.le_of_ble_eq_true rfl⟩ rfl rfl (Nat.le_of_ble_eq_true rfl) ⟨Nat.le_refl 0, Nat.le_refl 0⟩ (fun H locs hM => ?_)
    refine lv_if_ne (tgt := 17) C.1 C.2.1 (dd_at td_takesClause 6 rfl) (by decide) (fun c8 => ?_) (fun c8 => ?_)
    · replace hf := fc_of_f hf c8
      refine lv_aload_n C.1 C.2.1 (dd_at td_takesClause 9 rfl) rfl (lv_at hl 0 rfl) ?_
      refine mm_gA C hM 16 (dd_at td_takesClause 10 rfl) (by decide) (by decide) (by decide) ?_
      refine lv_iload_n C.1 C.2.1 (dd_at td_takesClause 11 rfl) rfl (lv_at hl 1 rfl) ?_
      refine lv_aload_n C.1 C.2.1 (dd_at td_takesClause 12 rfl) rfl (lv_at hl 0 rfl) ?_
      refine mm_gI C hM 12 (dd_at td_takesClause 13 rfl) (by decide) (by decide) (by decide) ?_
      obtain ⟨g9, hf⟩ := fc_of_gd hf
      refine mm_iast C hM 16 (dd_at td_takesClause 14 rfl) (by decide) (by decide) (fc_of_ix g9) (fun st10 H locs est10 hM => ?_)
      replace hf := fc_of_nm hf st10 est10
      refine lv_aload_n C.1 C.2.1 (dd_at td_takesClause 15 rfl) rfl (lv_at hl 0 rfl) ?_
      refine mm_gA C hM 15 (dd_at td_takesClause 16 rfl) (by decide) (by decide) (by decide) ?_
      refine lv_iload_n C.1 C.2.1 (dd_at td_takesClause 17 rfl) rfl (lv_at hl 1 rfl) ?_
      obtain ⟨g11, hf⟩ := fc_of_gd hf
      refine mm_iald C hM 15 (dd_at td_takesClause 18 rfl) (by decide) (by decide) (fc_of_ix g11) ?_
      refine lv_iconst (v := (2 : Int32)) C.1 C.2.1 (dd_at td_takesClause 19 rfl) (by decide) ?_
      refine lv_icmp_eq (tgt := 54) C.1 C.2.1 (dd_at td_takesClause 20 rfl) (by decide) (fun c12 => ?_) (fun c12 => ?_)
      · replace hf := fc_of_t hf c12
        refine lv_iconst (v := (1 : Int32)) C.1 C.2.1 (dd_at td_takesClause 29 rfl) (by decide) ?_
        refine lv_goto (tgt := 59) C.1 C.2.1 (dd_at td_takesClause 30 rfl) (by decide) ?_
        exact mm_rz C hM (dd_at td_takesClause 32 rfl) rfl hf
      · replace hf := fc_of_f hf c12
        refine lv_aload_n C.1 C.2.1 (dd_at td_takesClause 21 rfl) rfl (lv_at hl 0 rfl) ?_
        refine lv_bipush (v := (32 : Int32)) C.1 C.2.1 (dd_at td_takesClause 22 rfl) (by decide) ?_
        obtain ⟨r15, st13, hx14, hf⟩ := fc_of_bn hf
        refine mm_ci (As := [.int (32 : Int32)]) (rest := []) (n := 1) C hM (c_takes l D o ad cs fu (32 : Int32) st10) (List.mem_of_getElem? (i := 38) rfl) (dd_at td_takesClause 23 rfl) hx14 hl.1 hd_takes ⟨Nat.le_of_ble_eq_true rfl, Nat.le_of_ble_eq_true rfl⟩ rfl rfl (Nat.le_of_ble_eq_true rfl) ⟨Nat.le_refl 0, Nat.le_refl 0⟩ (fun H locs hM => ?_)
        refine lv_if_eq (tgt := 58) C.1 C.2.1 (dd_at td_takesClause 24 rfl) (by decide) (fun c16 => ?_) (fun c16 => ?_)
        · replace hf := fc_of_t hf c16
          refine lv_iconst (v := (0 : Int32)) C.1 C.2.1 (dd_at td_takesClause 31 rfl) (by decide) ?_
          exact mm_rz C hM (dd_at td_takesClause 32 rfl) rfl hf
        · replace hf := fc_of_f hf c16
          refine lv_aload_n C.1 C.2.1 (dd_at td_takesClause 25 rfl) rfl (lv_at hl 0 rfl) ?_
          refine lv_iload_n C.1 C.2.1 (dd_at td_takesClause 26 rfl) rfl (lv_at hl 1 rfl) ?_
          obtain ⟨r19, st17, hx18, hf⟩ := fc_of_bn hf
          refine mm_ci (As := [.int x1]) (rest := []) (n := 1) C hM (c_takesE l D o ad cs fu x1 st13) (List.mem_of_getElem? (i := 40) rfl) (dd_at td_takesClause 27 rfl) hx18 hl.1 hd_takesE ⟨Nat.le_of_ble_eq_true rfl, Nat.le_of_ble_eq_true rfl⟩ rfl rfl (Nat.le_of_ble_eq_true rfl) ⟨Nat.le_refl 0, Nat.le_refl 0⟩ (fun H locs hM => ?_)
          refine lv_if_eq (tgt := 58) C.1 C.2.1 (dd_at td_takesClause 28 rfl) (by decide) (fun c20 => ?_) (fun c20 => ?_)
          · replace hf := fc_of_t hf c20
            refine lv_iconst (v := (0 : Int32)) C.1 C.2.1 (dd_at td_takesClause 31 rfl) (by decide) ?_
            exact mm_rz C hM (dd_at td_takesClause 32 rfl) rfl hf
          · replace hf := fc_of_f hf c20
            refine lv_iconst (v := (1 : Int32)) C.1 C.2.1 (dd_at td_takesClause 29 rfl) (by decide) ?_
            refine lv_goto (tgt := 59) C.1 C.2.1 (dd_at td_takesClause 30 rfl) (by decide) ?_
            exact mm_rz C hM (dd_at td_takesClause 32 rfl) rfl hf
    · replace hf := fc_of_t hf c8
      refine lv_iconst (v := (0 : Int32)) C.1 C.2.1 (dd_at td_takesClause 7 rfl) (by decide) ?_
      exact mm_rz C hM (dd_at td_takesClause 8 rfl) rfl hf
theorem c_takesClause (l : Launch) (D : va_G) (o : Nat) (ad : Nat → Nat) (cs : ClassId × ClassId × ClassId) (fu : Nat) (x1 : Int32) (st : mm_S) : mm_Mi l D o ad cs yX12_takesClause cX12_takesClause 2 (some .boolean) 5 109 [.int x1] st (M_takesClause fu x1 st) := by
  intro r st' hf
  refine mm_enter (cc := cX12_takesClause) (nL := 2) (ret := some .boolean) (by decide) rfl (Nat.le_of_ble_eq_true rfl) ?_
  intro p e s m args below meth c ls C hl hM
  exact w_takesClause C fu x1 st hf hl hM

/-! goesText -/
def tb_goesText : List (Nat × Instr × Nat) := [(0, .aload_n 0, 1), (1, .iconst 0, 1), (2, .putfield 44, 3), (5, .aload_n 0, 1), (6, .bipush 100, 2), (8, .iload_n 1, 1), (9, .imul, 1), (10, .putfield 74, 3), (13, .iconst 0, 1), (14, .istore_n 2, 1), (15, .aload_n 0, 1), (16, .bipush 10, 2), (18, .iload_n 1, 1), (19, .imul, 1), (20, .iload_n 2, 1), (21, .iadd, 1), (22, .invokevirtual 258, 3), (25, .ifCond .ne 5, 3), (28, .iconst 0, 1), (29, .ireturn, 1), (30, .iinc 2 1, 3), (33, .aload_n 0, 1), (34, .getfield 53, 3), (37, .iload_n 1, 1), (38, .iload_n 2, 1), (39, .iastore, 1), (40, .aload_n 0, 1), (41, .getfield 44, 3), (44, .aload_n 0, 1), (45, .getfield 41, 3), (48, .if_icmp .ne 5, 3), (51, .iconst 1, 1), (52, .ireturn, 1), (53, .iload_n 2, 1), (54, .bipush 10, 2), (56, .if_icmp .eq 12, 3), (59, .aload_n 0, 1), (60, .bipush 59, 2), (62, .invokevirtual 222, 3), (65, .ifCond .ne (-50), 3), (68, .iconst 0, 1), (69, .ireturn, 1)]
theorem td_goesText : tb_goesText.all (fun q => decide (decode cX12_goesText q.1 = .ok (q.2.1, q.2.2))) = true := by decide +kernel
theorem hd_goesText : yX12_goesText.cls = RX12 ∧ yX12_goesText.cls ≠ "java/lang/invoke/MethodHandle" ∧ yX12_goesText.cls ≠ "java/lang/invoke/VarHandle" ∧ (parseMethodDescriptor yX12_goesText.desc).map (fun d => d.parameters.length) = some 1 := by decide +kernel
theorem w_goesText_b15F {p : Program} {l : Launch} {e : Env} {s : State} {m : MethodId} {args : Array Value} {below : List Frame} {meth : Method} {c : Code} {D : va_G} {o : Nat} {ad : Nat → Nat} {cs : ClassId × ClassId × ClassId} {r : Int32} {st' : mm_S} (C : mm_C p s m args meth c cX12_goesText 3 (some .boolean) D cs) (fu : Nat) (K15 : Int32 → Int32 → mm_S → Option (Int32 × mm_S)) (hK15 : ∀ (x1 : Int32) (x2 : Int32) (st : mm_S) (H : Heap) (locs : List Loc) (ls : Array Slot), K15 x1 x2 st = some (r, st') → lv_has ls 3 [(0, .ref o), (1, .int x1), (2, .int x2)] → mm_H D o ad cs s.heap st H locs → W p l e (mm_R 6 130) s m args below meth c H locs 0 0 (MQ below (mm_Qi D o ad cs r st') args s 0 0 (mm_A o ad)) (F0 m 15 ls [])) (x1 : Int32) (x2 : Int32) (st : mm_S) (hf : M_goesText_b15F fu K15 x1 x2 st = some (r, st')) {H : Heap} {locs : List Loc} {ls : Array Slot} (hl : lv_has ls 3 [(0, .ref o), (1, .int x1), (2, .int x2)]) (hM : mm_H D o ad cs s.heap st H locs) : W p l e (mm_R 6 130) s m args below meth c H locs 0 0 (MQ below (mm_Qi D o ad cs r st') args s 0 0 (mm_A o ad)) (F0 m 15 ls []) := by
  unfold M_goesText_b15F at hf
  refine lv_aload_n C.1 C.2.1 (dd_at td_goesText 10 rfl) rfl (lv_at hl 0 rfl) ?_
  refine lv_bipush (v := (10 : Int32)) C.1 C.2.1 (dd_at td_goesText 11 rfl) (by decide) ?_
  refine lv_iload_n C.1 C.2.1 (dd_at td_goesText 12 rfl) rfl (lv_at hl 1 rfl) ?_
  refine lv_imul C.1 C.2.1 (dd_at td_goesText 13 rfl) ?_
  refine lv_iload_n C.1 C.2.1 (dd_at td_goesText 14 rfl) rfl (lv_at hl 2 rfl) ?_
  refine lv_iadd C.1 C.2.1 (dd_at td_goesText 15 rfl) ?_
  obtain ⟨r5, st3, hx4, hf⟩ := fc_of_bn hf
  refine mm_ci (As := [.int (((10 : Int32) * x1) + x2)]) (rest := []) (n := 1) C hM (c_takesClause l D o ad cs fu (((10 : Int32) * x1) + x2) st) (List.mem_of_getElem? (i := 39) rfl) (dd_at td_goesText 16 rfl) hx4 hl.1 hd_takesClause ⟨Nat.le_of_ble_eq_true rfl, Nat.le_of_ble_eq_true rfl⟩ rfl rfl (Nat.le_of_ble_eq_true rfl) ⟨Nat.le_refl 0, Nat.le_refl 0⟩ (fun H locs hM => ?_)
  refine lv_if_ne (tgt := 30) C.1 C.2.1 (dd_at td_goesText 17 rfl) (by decide) (fun c6 => ?_) (fun c6 => ?_)
  · replace hf := fc_of_f hf c6
    obtain ⟨v7, ev7⟩ : ∃ y : Int32, y = x2 + (1 : Int32) := ⟨_, rfl⟩
    replace hf := fc_of_nm hf v7 ev7
    refine lv_iinc (v := v7) (lv' := [(2, .int v7), (0, .ref o), (1, .int x1)]) C.1 C.2.1 (dd_at td_goesText 20 rfl) hl (k := 2) rfl (by rw [ev7]; rfl) (by decide) rfl (fun ls hl => ?_)
    refine lv_aload_n C.1 C.2.1 (dd_at td_goesText 21 rfl) rfl (lv_at hl 1 rfl) ?_
    refine mm_gA C hM 14 (dd_at td_goesText 22 rfl) (by decide) (by decide) (by decide) ?_
    refine lv_iload_n C.1 C.2.1 (dd_at td_goesText 23 rfl) rfl (lv_at hl 2 rfl) ?_
    refine lv_iload_n C.1 C.2.1 (dd_at td_goesText 24 rfl) rfl (lv_at hl 0 rfl) ?_
    obtain ⟨g8, hf⟩ := fc_of_gd hf
    refine mm_iast C hM 14 (dd_at td_goesText 25 rfl) (by decide) (by decide) (fc_of_ix g8) (fun st9 H locs est9 hM => ?_)
    replace hf := fc_of_nm hf st9 est9
    refine lv_aload_n C.1 C.2.1 (dd_at td_goesText 26 rfl) rfl (lv_at hl 1 rfl) ?_
    refine mm_gI C hM 11 (dd_at td_goesText 27 rfl) (by decide) (by decide) (by decide) ?_
    refine lv_aload_n C.1 C.2.1 (dd_at td_goesText 28 rfl) rfl (lv_at hl 1 rfl) ?_
    refine mm_gI C hM 10 (dd_at td_goesText 29 rfl) (by decide) (by decide) (by decide) ?_
    refine lv_icmp_ne (tgt := 53) C.1 C.2.1 (dd_at td_goesText 30 rfl) (by decide) (fun c10 => ?_) (fun c10 => ?_)
    · replace hf := fc_of_f hf c10
      refine lv_iload_n C.1 C.2.1 (dd_at td_goesText 33 rfl) rfl (lv_at hl 0 rfl) ?_
      refine lv_bipush (v := (10 : Int32)) C.1 C.2.1 (dd_at td_goesText 34 rfl) (by decide) ?_
      refine lv_icmp_eq (tgt := 68) C.1 C.2.1 (dd_at td_goesText 35 rfl) (by decide) (fun c11 => ?_) (fun c11 => ?_)
      · replace hf := fc_of_t hf c11
        refine lv_iconst (v := (0 : Int32)) C.1 C.2.1 (dd_at td_goesText 40 rfl) (by decide) ?_
        exact mm_rz C hM (dd_at td_goesText 41 rfl) rfl hf
      · replace hf := fc_of_f hf c11
        refine lv_aload_n C.1 C.2.1 (dd_at td_goesText 36 rfl) rfl (lv_at hl 1 rfl) ?_
        refine lv_bipush (v := (59 : Int32)) C.1 C.2.1 (dd_at td_goesText 37 rfl) (by decide) ?_
        obtain ⟨r14, st12, hx13, hf⟩ := fc_of_bn hf
        refine mm_ci (As := [.int (59 : Int32)]) (rest := []) (n := 1) C hM (c_takes l D o ad cs fu (59 : Int32) st9) (List.mem_of_getElem? (i := 38) rfl) (dd_at td_goesText 38 rfl) hx13 hl.1 hd_takes ⟨Nat.le_of_ble_eq_true rfl, Nat.le_of_ble_eq_true rfl⟩ rfl rfl (Nat.le_of_ble_eq_true rfl) ⟨Nat.le_refl 0, Nat.le_refl 0⟩ (fun H locs hM => ?_)
        refine lv_if_ne (tgt := 15) C.1 C.2.1 (dd_at td_goesText 39 rfl) (by decide) (fun c15 => ?_) (fun c15 => ?_)
        · replace hf := fc_of_f hf c15
          exact hK15 x1 v7 st12 _ _ _ hf (lv_sub hl [1, 2, 0] rfl) hM
        · replace hf := fc_of_t hf c15
          refine lv_iconst (v := (0 : Int32)) C.1 C.2.1 (dd_at td_goesText 40 rfl) (by decide) ?_
          exact mm_rz C hM (dd_at td_goesText 41 rfl) rfl hf
    · replace hf := fc_of_t hf c10
      refine lv_iconst (v := (1 : Int32)) C.1 C.2.1 (dd_at td_goesText 31 rfl) (by decide) ?_
      exact mm_rz C hM (dd_at td_goesText 32 rfl) rfl hf
  · replace hf := fc_of_t hf c6
    refine lv_iconst (v := (0 : Int32)) C.1 C.2.1 (dd_at td_goesText 18 rfl) (by decide) ?_
    exact mm_rz C hM (dd_at td_goesText 19 rfl) rfl hf
theorem w_goesText_b15 {p : Program} {l : Launch} {e : Env} {s : State} {m : MethodId} {args : Array Value} {below : List Frame} {meth : Method} {c : Code} {D : va_G} {o : Nat} {ad : Nat → Nat} {cs : ClassId × ClassId × ClassId} {r : Int32} {st' : mm_S} (C : mm_C p s m args meth c cX12_goesText 3 (some .boolean) D cs) (fu : Nat) (n : Nat) : ∀ (x1 : Int32) (x2 : Int32) (st : mm_S), M_goesText_b15 fu n x1 x2 st = some (r, st') → ∀ (H : Heap) (locs : List Loc) (ls : Array Slot), lv_has ls 3 [(0, .ref o), (1, .int x1), (2, .int x2)] → mm_H D o ad cs s.heap st H locs → W p l e (mm_R 6 130) s m args below meth c H locs 0 0 (MQ below (mm_Qi D o ad cs r st') args s 0 0 (mm_A o ad)) (F0 m 15 ls []) := by
  induction n with
  | zero => exact fun _ _ _ hf => fc_no hf
  | succ n ih =>
    intro x1 x2 st hf H locs ls hl hM
    exact w_goesText_b15F C fu (fun x1 x2 st => M_goesText_b15 fu n x1 x2 st) (fun x1 x2 st H locs ls hf hl hM => ih x1 x2 st hf H locs ls hl hM) x1 x2 st hf hl hM
theorem w_goesText {p : Program} {l : Launch} {e : Env} {s : State} {m : MethodId} {args : Array Value} {below : List Frame} {meth : Method} {c : Code} {D : va_G} {o : Nat} {ad : Nat → Nat} {cs : ClassId × ClassId × ClassId} {r : Int32} {st' : mm_S} (C : mm_C p s m args meth c cX12_goesText 3 (some .boolean) D cs) (fu : Nat) (x1 : Int32) (st : mm_S) (hf : M_goesText fu x1 st = some (r, st')) {H : Heap} {locs : List Loc} {ls : Array Slot} (hl : lv_has ls 3 [(0, .ref o), (1, .int x1)]) (hM : mm_H D o ad cs s.heap st H locs) : W p l e (mm_R 6 130) s m args below meth c H locs 0 0 (MQ below (mm_Qi D o ad cs r st') args s 0 0 (mm_A o ad)) (F0 m 0 ls []) := by
  unfold M_goesText at hf
  refine lv_aload_n C.1 C.2.1 (dd_at td_goesText 0 rfl) rfl (lv_at hl 0 rfl) ?_
  refine lv_iconst (v := (0 : Int32)) C.1 C.2.1 (dd_at td_goesText 1 rfl) (by decide) ?_
  refine mm_pI C hM 11 (dd_at td_goesText 2 rfl) (by decide) (by decide) (by decide) rfl rfl (fun st1 H locs est1 hM => ?_)
  replace hf := fc_of_nm hf st1 est1
  refine lv_aload_n C.1 C.2.1 (dd_at td_goesText 3 rfl) rfl (lv_at hl 0 rfl) ?_
  refine lv_bipush (v := (100 : Int32)) C.1 C.2.1 (dd_at td_goesText 4 rfl) (by decide) ?_
  refine lv_iload_n C.1 C.2.1 (dd_at td_goesText 5 rfl) rfl (lv_at hl 1 rfl) ?_
  refine lv_imul C.1 C.2.1 (dd_at td_goesText 6 rfl) ?_
  refine mm_pI C hM 21 (dd_at td_goesText 7 rfl) (by decide) (by decide) (by decide) rfl rfl (fun st2 H locs est2 hM => ?_)
  replace hf := fc_of_nm hf st2 est2
  refine lv_iconst (v := (0 : Int32)) C.1 C.2.1 (dd_at td_goesText 8 rfl) (by decide) ?_
  refine lv_istore_n (lv' := [(2, .int (0 : Int32)), (0, .ref o), (1, .int x1)]) C.1 C.2.1 (dd_at td_goesText 9 rfl) rfl hl (by decide) rfl (fun ls hl => ?_)
  exact w_goesText_b15 C fu fu x1 (0 : Int32) st2 hf _ _ _ (lv_sub hl [1, 2, 0] rfl) hM
theorem c_goesText (l : Launch) (D : va_G) (o : Nat) (ad : Nat → Nat) (cs : ClassId × ClassId × ClassId) (fu : Nat) (x1 : Int32) (st : mm_S) : mm_Mi l D o ad cs yX12_goesText cX12_goesText 3 (some .boolean) 6 130 [.int x1] st (M_goesText fu x1 st) := by
  intro r st' hf
  refine mm_enter (cc := cX12_goesText) (nL := 3) (ret := some .boolean) (by decide) rfl (Nat.le_of_ble_eq_true rfl) ?_
  intro p e s m args below meth c ls C hl hM
  exact w_goesText C fu x1 st hf hl hM

/-! archive -/
def tb_archive : List (Nat × Instr × Nat) := [(0, .aload_n 0, 1), (1, .getfield 35, 3), (4, .bipush 6, 2), (6, .if_icmp .ne 6, 3), (9, .bipush (-4), 2), (11, .ireturn, 1), (12, .aload_n 0, 1), (13, .aload_n 0, 1), (14, .getfield 35, 3), (17, .invokevirtual 261, 3), (20, .istore_n 1, 1), (21, .aload_n 0, 1), (22, .iconst 0, 1), (23, .putfield 41, 3), (26, .iload_n 1, 1), (27, .ifCond .ne 11, 3), (30, .bipush (-10), 2), (32, .aload_n 0, 1), (33, .getfield 44, 3), (36, .isub, 1), (37, .ireturn, 1), (38, .aload_n 0, 1), (39, .aload_n 0, 1), (40, .getfield 35, 3), (43, .putfield 38, 3), (46, .aload_n 0, 1), (47, .dup, 1), (48, .getfield 35, 3), (51, .iconst 1, 1), (52, .iadd, 1), (53, .putfield 35, 3), (56, .aload_n 0, 1), (57, .getfield 38, 3), (60, .ireturn, 1)]
theorem td_archive : tb_archive.all (fun q => decide (decode cX12_archive q.1 = .ok (q.2.1, q.2.2))) = true := by decide +kernel
theorem w_archive {p : Program} {l : Launch} {e : Env} {s : State} {m : MethodId} {args : Array Value} {below : List Frame} {meth : Method} {c : Code} {D : va_G} {o : Nat} {ad : Nat → Nat} {cs : ClassId × ClassId × ClassId} {r : Int32} {st' : mm_S} (C : mm_C p s m args meth c cX12_archive 2 (some .int) D cs) (fu : Nat) (st : mm_S) (hf : M_archive fu st = some (r, st')) {H : Heap} {locs : List Loc} {ls : Array Slot} (hl : lv_has ls 2 [(0, .ref o)]) (hM : mm_H D o ad cs s.heap st H locs) : W p l e (mm_R 7 152) s m args below meth c H locs 0 0 (MQ below (mm_Qi D o ad cs r st') args s 0 0 (mm_A o ad)) (F0 m 0 ls []) := by
  unfold M_archive at hf
  refine lv_aload_n C.1 C.2.1 (dd_at td_archive 0 rfl) rfl (lv_at hl 0 rfl) ?_
  refine mm_gI C hM 8 (dd_at td_archive 1 rfl) (by decide) (by decide) (by decide) ?_
  refine lv_bipush (v := (6 : Int32)) C.1 C.2.1 (dd_at td_archive 2 rfl) (by decide) ?_
  refine lv_icmp_ne (tgt := 12) C.1 C.2.1 (dd_at td_archive 3 rfl) (by decide) (fun c1 => ?_) (fun c1 => ?_)
  · replace hf := fc_of_f hf c1
    refine lv_aload_n C.1 C.2.1 (dd_at td_archive 6 rfl) rfl (lv_at hl 0 rfl) ?_
    refine lv_aload_n C.1 C.2.1 (dd_at td_archive 7 rfl) rfl (lv_at hl 0 rfl) ?_
    refine mm_gI C hM 8 (dd_at td_archive 8 rfl) (by decide) (by decide) (by decide) ?_
    obtain ⟨r4, st2, hx3, hf⟩ := fc_of_bn hf
    refine mm_ci (As := [.int (mm_I st 8)]) (rest := []) (n := 1) C hM (c_goesText l D o ad cs fu (mm_I st 8) st) (List.mem_of_getElem? (i := 12) rfl) (dd_at td_archive 9 rfl) hx3 hl.1 hd_goesText ⟨Nat.le_of_ble_eq_true rfl, Nat.le_of_ble_eq_true rfl⟩ rfl rfl (Nat.le_of_ble_eq_true rfl) ⟨Nat.le_refl 0, Nat.le_refl 0⟩ (fun H locs hM => ?_)
    refine lv_istore_n (lv' := [(1, .int r4), (0, .ref o)]) C.1 C.2.1 (dd_at td_archive 10 rfl) rfl hl (by decide) rfl (fun ls hl => ?_)
    refine lv_aload_n C.1 C.2.1 (dd_at td_archive 11 rfl) rfl (lv_at hl 1 rfl) ?_
    refine lv_iconst (v := (0 : Int32)) C.1 C.2.1 (dd_at td_archive 12 rfl) (by decide) ?_
    refine mm_pI C hM 10 (dd_at td_archive 13 rfl) (by decide) (by decide) (by decide) rfl rfl (fun st5 H locs est5 hM => ?_)
    replace hf := fc_of_nm hf st5 est5
    refine lv_iload_n C.1 C.2.1 (dd_at td_archive 14 rfl) rfl (lv_at hl 0 rfl) ?_
    refine lv_if_ne (tgt := 38) C.1 C.2.1 (dd_at td_archive 15 rfl) (by decide) (fun c6 => ?_) (fun c6 => ?_)
    · replace hf := fc_of_f hf c6
      refine lv_aload_n C.1 C.2.1 (dd_at td_archive 21 rfl) rfl (lv_at hl 1 rfl) ?_
      refine lv_aload_n C.1 C.2.1 (dd_at td_archive 22 rfl) rfl (lv_at hl 1 rfl) ?_
      refine mm_gI C hM 8 (dd_at td_archive 23 rfl) (by decide) (by decide) (by decide) ?_
      refine mm_pI C hM 9 (dd_at td_archive 24 rfl) (by decide) (by decide) (by decide) rfl rfl (fun st7 H locs est7 hM => ?_)
      replace hf := fc_of_nm hf st7 est7
      refine lv_aload_n C.1 C.2.1 (dd_at td_archive 25 rfl) rfl (lv_at hl 1 rfl) ?_
      refine lv_dup C.1 C.2.1 (dd_at td_archive 26 rfl) rfl ?_
      refine mm_gI C hM 8 (dd_at td_archive 27 rfl) (by decide) (by decide) (by decide) ?_
      refine lv_iconst (v := (1 : Int32)) C.1 C.2.1 (dd_at td_archive 28 rfl) (by decide) ?_
      refine lv_iadd C.1 C.2.1 (dd_at td_archive 29 rfl) ?_
      refine mm_pI C hM 8 (dd_at td_archive 30 rfl) (by decide) (by decide) (by decide) rfl rfl (fun st8 H locs est8 hM => ?_)
      replace hf := fc_of_nm hf st8 est8
      refine lv_aload_n C.1 C.2.1 (dd_at td_archive 31 rfl) rfl (lv_at hl 1 rfl) ?_
      refine mm_gI C hM 9 (dd_at td_archive 32 rfl) (by decide) (by decide) (by decide) ?_
      exact mm_ri C hM (dd_at td_archive 33 rfl) hf
    · replace hf := fc_of_t hf c6
      refine lv_bipush (v := (-10 : Int32)) C.1 C.2.1 (dd_at td_archive 16 rfl) (by decide) ?_
      refine lv_aload_n C.1 C.2.1 (dd_at td_archive 17 rfl) rfl (lv_at hl 1 rfl) ?_
      refine mm_gI C hM 11 (dd_at td_archive 18 rfl) (by decide) (by decide) (by decide) ?_
      refine lv_isub C.1 C.2.1 (dd_at td_archive 19 rfl) ?_
      exact mm_ri C hM (dd_at td_archive 20 rfl) hf
  · replace hf := fc_of_t hf c1
    refine lv_bipush (v := (-4 : Int32)) C.1 C.2.1 (dd_at td_archive 4 rfl) (by decide) ?_
    exact mm_ri C hM (dd_at td_archive 5 rfl) hf
theorem c_archive (l : Launch) (D : va_G) (o : Nat) (ad : Nat → Nat) (cs : ClassId × ClassId × ClassId) (fu : Nat) (st : mm_S) : mm_Mi l D o ad cs yX12_archive cX12_archive 2 (some .int) 7 152 [] st (M_archive fu st) := by
  intro r st' hf
  refine mm_enter (cc := cX12_archive) (nL := 2) (ret := some .int) (by decide) rfl (Nat.le_of_ble_eq_true rfl) ?_
  intro p e s m args below meth c ls C hl hM
  exact w_archive C fu st hf hl hM

/-! begin -/
def tb_begin : List (Nat × Instr × Nat) := [(0, .aload_n 0, 1), (1, .getfield 38, 3), (4, .ifCond .ge 7, 3), (7, .iconst 0, 1), (8, .goto 10, 3), (11, .bipush 10, 2), (13, .aload_n 0, 1), (14, .getfield 38, 3), (17, .imul, 1), (18, .ireturn, 1)]
theorem td_begin : tb_begin.all (fun q => decide (decode cX12_begin q.1 = .ok (q.2.1, q.2.2))) = true := by decide +kernel
theorem hd_begin : yX12_begin.cls = RX12 ∧ yX12_begin.cls ≠ "java/lang/invoke/MethodHandle" ∧ yX12_begin.cls ≠ "java/lang/invoke/VarHandle" ∧ (parseMethodDescriptor yX12_begin.desc).map (fun d => d.parameters.length) = some 0 := by decide +kernel
theorem w_begin {p : Program} {l : Launch} {e : Env} {s : State} {m : MethodId} {args : Array Value} {below : List Frame} {meth : Method} {c : Code} {D : va_G} {o : Nat} {ad : Nat → Nat} {cs : ClassId × ClassId × ClassId} {r : Int32} {st' : mm_S} (C : mm_C p s m args meth c cX12_begin 1 (some .int) D cs) (fu : Nat) (st : mm_S) (hf : M_begin fu st = some (r, st')) {H : Heap} {locs : List Loc} {ls : Array Slot} (hl : lv_has ls 1 [(0, .ref o)]) (hM : mm_H D o ad cs s.heap st H locs) : W p l e (mm_R 0 0) s m args below meth c H locs 0 0 (MQ below (mm_Qi D o ad cs r st') args s 0 0 (mm_A o ad)) (F0 m 0 ls []) := by
  unfold M_begin at hf
  refine lv_aload_n C.1 C.2.1 (dd_at td_begin 0 rfl) rfl (lv_at hl 0 rfl) ?_
  refine mm_gI C hM 9 (dd_at td_begin 1 rfl) (by decide) (by decide) (by decide) ?_
  refine lv_if_ge (tgt := 11) C.1 C.2.1 (dd_at td_begin 2 rfl) (by decide) (fun c1 => ?_) (fun c1 => ?_)
  · replace hf := fc_of_t hf c1
    refine lv_bipush (v := (10 : Int32)) C.1 C.2.1 (dd_at td_begin 5 rfl) (by decide) ?_
    refine lv_aload_n C.1 C.2.1 (dd_at td_begin 6 rfl) rfl (lv_at hl 0 rfl) ?_
    refine mm_gI C hM 9 (dd_at td_begin 7 rfl) (by decide) (by decide) (by decide) ?_
    refine lv_imul C.1 C.2.1 (dd_at td_begin 8 rfl) ?_
    exact mm_ri C hM (dd_at td_begin 9 rfl) hf
  · replace hf := fc_of_f hf c1
    refine lv_iconst (v := (0 : Int32)) C.1 C.2.1 (dd_at td_begin 3 rfl) (by decide) ?_
    refine lv_goto (tgt := 18) C.1 C.2.1 (dd_at td_begin 4 rfl) (by decide) ?_
    exact mm_ri C hM (dd_at td_begin 9 rfl) hf
theorem c_begin (l : Launch) (D : va_G) (o : Nat) (ad : Nat → Nat) (cs : ClassId × ClassId × ClassId) (fu : Nat) (st : mm_S) : mm_Mi l D o ad cs yX12_begin cX12_begin 1 (some .int) 0 0 [] st (M_begin fu st) := by
  intro r st' hf
  refine mm_enter (cc := cX12_begin) (nL := 1) (ret := some .int) (by decide) rfl (Nat.le_of_ble_eq_true rfl) ?_
  intro p e s m args below meth c ls C hl hM
  exact w_begin C fu st hf hl hM

/-! behind -/
def tb_behind : List (Nat × Instr × Nat) := [(0, .aload_n 0, 1), (1, .getfield 38, 3), (4, .ifCond .ge 7, 3), (7, .iconst 0, 1), (8, .goto 20, 3), (11, .bipush 10, 2), (13, .aload_n 0, 1), (14, .getfield 38, 3), (17, .imul, 1), (18, .aload_n 0, 1), (19, .getfield 53, 3), (22, .aload_n 0, 1), (23, .getfield 38, 3), (26, .iaload, 1), (27, .iadd, 1), (28, .ireturn, 1)]
theorem td_behind : tb_behind.all (fun q => decide (decode cX12_behind q.1 = .ok (q.2.1, q.2.2))) = true := by decide +kernel
theorem hd_behind : yX12_behind.cls = RX12 ∧ yX12_behind.cls ≠ "java/lang/invoke/MethodHandle" ∧ yX12_behind.cls ≠ "java/lang/invoke/VarHandle" ∧ (parseMethodDescriptor yX12_behind.desc).map (fun d => d.parameters.length) = some 0 := by decide +kernel
theorem w_behind {p : Program} {l : Launch} {e : Env} {s : State} {m : MethodId} {args : Array Value} {below : List Frame} {meth : Method} {c : Code} {D : va_G} {o : Nat} {ad : Nat → Nat} {cs : ClassId × ClassId × ClassId} {r : Int32} {st' : mm_S} (C : mm_C p s m args meth c cX12_behind 1 (some .int) D cs) (fu : Nat) (st : mm_S) (hf : M_behind fu st = some (r, st')) {H : Heap} {locs : List Loc} {ls : Array Slot} (hl : lv_has ls 1 [(0, .ref o)]) (hM : mm_H D o ad cs s.heap st H locs) : W p l e (mm_R 0 0) s m args below meth c H locs 0 0 (MQ below (mm_Qi D o ad cs r st') args s 0 0 (mm_A o ad)) (F0 m 0 ls []) := by
  unfold M_behind at hf
  refine lv_aload_n C.1 C.2.1 (dd_at td_behind 0 rfl) rfl (lv_at hl 0 rfl) ?_
  refine mm_gI C hM 9 (dd_at td_behind 1 rfl) (by decide) (by decide) (by decide) ?_
  refine lv_if_ge (tgt := 11) C.1 C.2.1 (dd_at td_behind 2 rfl) (by decide) (fun c1 => ?_) (fun c1 => ?_)
  · replace hf := fc_of_t hf c1
    refine lv_bipush (v := (10 : Int32)) C.1 C.2.1 (dd_at td_behind 5 rfl) (by decide) ?_
    refine lv_aload_n C.1 C.2.1 (dd_at td_behind 6 rfl) rfl (lv_at hl 0 rfl) ?_
    refine mm_gI C hM 9 (dd_at td_behind 7 rfl) (by decide) (by decide) (by decide) ?_
    refine lv_imul C.1 C.2.1 (dd_at td_behind 8 rfl) ?_
    refine lv_aload_n C.1 C.2.1 (dd_at td_behind 9 rfl) rfl (lv_at hl 0 rfl) ?_
    refine mm_gA C hM 14 (dd_at td_behind 10 rfl) (by decide) (by decide) (by decide) ?_
    refine lv_aload_n C.1 C.2.1 (dd_at td_behind 11 rfl) rfl (lv_at hl 0 rfl) ?_
    refine mm_gI C hM 9 (dd_at td_behind 12 rfl) (by decide) (by decide) (by decide) ?_
    obtain ⟨g2, hf⟩ := fc_of_gd hf
    refine mm_iald C hM 14 (dd_at td_behind 13 rfl) (by decide) (by decide) (fc_of_ix g2) ?_
    refine lv_iadd C.1 C.2.1 (dd_at td_behind 14 rfl) ?_
    exact mm_ri C hM (dd_at td_behind 15 rfl) hf
  · replace hf := fc_of_f hf c1
    refine lv_iconst (v := (0 : Int32)) C.1 C.2.1 (dd_at td_behind 3 rfl) (by decide) ?_
    refine lv_goto (tgt := 28) C.1 C.2.1 (dd_at td_behind 4 rfl) (by decide) ?_
    exact mm_ri C hM (dd_at td_behind 15 rfl) hf
theorem c_behind (l : Launch) (D : va_G) (o : Nat) (ad : Nat → Nat) (cs : ClassId × ClassId × ClassId) (fu : Nat) (st : mm_S) : mm_Mi l D o ad cs yX12_behind cX12_behind 1 (some .int) 0 0 [] st (M_behind fu st) := by
  intro r st' hf
  refine mm_enter (cc := cX12_behind) (nL := 1) (ret := some .int) (by decide) rfl (Nat.le_of_ble_eq_true rfl) ?_
  intro p e s m args below meth c ls C hl hM
  exact w_behind C fu st hf hl hM

/-! keep -/
def tb_keep : List (Nat × Instr × Nat) := [(0, .iconst 1, 1), (1, .istore_n 1, 1), (2, .aload_n 0, 1), (3, .invokevirtual 264, 3), (6, .istore_n 2, 1), (7, .iload_n 2, 1), (8, .aload_n 0, 1), (9, .invokevirtual 267, 3), (12, .if_icmp .ge 30, 3), (15, .aload_n 0, 1), (16, .getfield 56, 3), (19, .iload_n 2, 1), (20, .iaload, 1), (21, .iconst 2, 1), (22, .if_icmp .ne 12, 3), (25, .aload_n 0, 1), (26, .getfield 59, 3), (29, .iload_n 2, 1), (30, .iaload, 1), (31, .goto 4, 3), (34, .iload_n 1, 1), (35, .istore_n 1, 1), (36, .iinc 2 1, 3), (39, .goto (-32), 3), (42, .iload_n 1, 1), (43, .ireturn, 1)]
theorem td_keep : tb_keep.all (fun q => decide (decode cX12_keep q.1 = .ok (q.2.1, q.2.2))) = true := by decide +kernel
theorem hd_keep : yX12_keep.cls = RX12 ∧ yX12_keep.cls ≠ "java/lang/invoke/MethodHandle" ∧ yX12_keep.cls ≠ "java/lang/invoke/VarHandle" ∧ (parseMethodDescriptor yX12_keep.desc).map (fun d => d.parameters.length) = some 0 := by decide +kernel
theorem w_keep_b35 {p : Program} {l : Launch} {e : Env} {s : State} {m : MethodId} {args : Array Value} {below : List Frame} {meth : Method} {c : Code} {D : va_G} {o : Nat} {ad : Nat → Nat} {cs : ClassId × ClassId × ClassId} {r : Int32} {st' : mm_S} (C : mm_C p s m args meth c cX12_keep 3 (some .int) D cs) (fu : Nat) (K7 : Int32 → Int32 → mm_S → Option (Int32 × mm_S)) (hK7 : ∀ (x1 : Int32) (x2 : Int32) (st : mm_S) (H : Heap) (locs : List Loc) (ls : Array Slot), K7 x1 x2 st = some (r, st') → lv_has ls 3 [(0, .ref o), (1, .int x1), (2, .int x2)] → mm_H D o ad cs s.heap st H locs → W p l e (mm_R 1 20) s m args below meth c H locs 0 0 (MQ below (mm_Qi D o ad cs r st') args s 0 0 (mm_A o ad)) (F0 m 7 ls [])) (x2 : Int32) (s0 : Int32) (st : mm_S) (hf : M_keep_b35 fu K7 x2 s0 st = some (r, st')) {H : Heap} {locs : List Loc} {ls : Array Slot} (hl : lv_has ls 3 [(0, .ref o), (2, .int x2)]) (hM : mm_H D o ad cs s.heap st H locs) : W p l e (mm_R 1 20) s m args below meth c H locs 0 0 (MQ below (mm_Qi D o ad cs r st') args s 0 0 (mm_A o ad)) (F0 m 35 ls [.int s0]) := by
  unfold M_keep_b35 at hf
  refine lv_istore_n (lv' := [(1, .int s0), (0, .ref o), (2, .int x2)]) C.1 C.2.1 (dd_at td_keep 21 rfl) rfl hl (by decide) rfl (fun ls hl => ?_)
  obtain ⟨v11, ev11⟩ : ∃ y : Int32, y = x2 + (1 : Int32) := ⟨_, rfl⟩
  replace hf := fc_of_nm hf v11 ev11
  refine lv_iinc (v := v11) (lv' := [(2, .int v11), (1, .int s0), (0, .ref o)]) C.1 C.2.1 (dd_at td_keep 22 rfl) hl (k := 2) rfl (by rw [ev11]; rfl) (by decide) rfl (fun ls hl => ?_)
  refine lv_goto (tgt := 7) C.1 C.2.1 (dd_at td_keep 23 rfl) (by decide) ?_
  exact hK7 s0 v11 st _ _ _ hf (lv_sub hl [2, 1, 0] rfl) hM
theorem w_keep_b7F {p : Program} {l : Launch} {e : Env} {s : State} {m : MethodId} {args : Array Value} {below : List Frame} {meth : Method} {c : Code} {D : va_G} {o : Nat} {ad : Nat → Nat} {cs : ClassId × ClassId × ClassId} {r : Int32} {st' : mm_S} (C : mm_C p s m args meth c cX12_keep 3 (some .int) D cs) (fu : Nat) (K7 : Int32 → Int32 → mm_S → Option (Int32 × mm_S)) (hK7 : ∀ (x1 : Int32) (x2 : Int32) (st : mm_S) (H : Heap) (locs : List Loc) (ls : Array Slot), K7 x1 x2 st = some (r, st') → lv_has ls 3 [(0, .ref o), (1, .int x1), (2, .int x2)] → mm_H D o ad cs s.heap st H locs → W p l e (mm_R 1 20) s m args below meth c H locs 0 0 (MQ below (mm_Qi D o ad cs r st') args s 0 0 (mm_A o ad)) (F0 m 7 ls [])) (x1 : Int32) (x2 : Int32) (st : mm_S) (hf : M_keep_b7F fu K7 x1 x2 st = some (r, st')) {H : Heap} {locs : List Loc} {ls : Array Slot} (hl : lv_has ls 3 [(0, .ref o), (1, .int x1), (2, .int x2)]) (hM : mm_H D o ad cs s.heap st H locs) : W p l e (mm_R 1 20) s m args below meth c H locs 0 0 (MQ below (mm_Qi D o ad cs r st') args s 0 0 (mm_A o ad)) (F0 m 7 ls []) := by
  unfold M_keep_b7F at hf
  refine lv_iload_n C.1 C.2.1 (dd_at td_keep 5 rfl) rfl (lv_at hl 2 rfl) ?_
  refine lv_aload_n C.1 C.2.1 (dd_at td_keep 6 rfl) rfl (lv_at hl 0 rfl) ?_
  obtain ⟨r6, st4, hx5, hf⟩ := fc_of_bn hf
  refine mm_ci (As := []) (rest := [.int x2]) (n := 0) C hM (c_behind l D o ad cs fu st) (List.mem_of_getElem? (i := 2) rfl) (dd_at td_keep 7 rfl) hx5 hl.1 hd_behind ⟨Nat.le_of_ble_eq_true rfl, Nat.le_of_ble_eq_true rfl⟩ rfl rfl (Nat.le_of_ble_eq_true rfl) ⟨Nat.le_refl 0, Nat.le_refl 0⟩ (fun H locs hM => ?_)
  refine lv_icmp_ge (tgt := 42) C.1 C.2.1 (dd_at td_keep 8 rfl) (by decide) (fun c7 => ?_) (fun c7 => ?_)
  · replace hf := fc_of_t hf c7
    refine lv_iload_n C.1 C.2.1 (dd_at td_keep 24 rfl) rfl (lv_at hl 1 rfl) ?_
    exact mm_ri C hM (dd_at td_keep 25 rfl) hf
  · replace hf := fc_of_f hf c7
    refine lv_aload_n C.1 C.2.1 (dd_at td_keep 9 rfl) rfl (lv_at hl 0 rfl) ?_
    refine mm_gA C hM 15 (dd_at td_keep 10 rfl) (by decide) (by decide) (by decide) ?_
    refine lv_iload_n C.1 C.2.1 (dd_at td_keep 11 rfl) rfl (lv_at hl 2 rfl) ?_
    obtain ⟨g8, hf⟩ := fc_of_gd hf
    refine mm_iald C hM 15 (dd_at td_keep 12 rfl) (by decide) (by decide) (fc_of_ix g8) ?_
    refine lv_iconst (v := (2 : Int32)) C.1 C.2.1 (dd_at td_keep 13 rfl) (by decide) ?_
    refine lv_icmp_ne (tgt := 34) C.1 C.2.1 (dd_at td_keep 14 rfl) (by decide) (fun c9 => ?_) (fun c9 => ?_)
    · replace hf := fc_of_f hf c9
      refine lv_iload_n C.1 C.2.1 (dd_at td_keep 20 rfl) rfl (lv_at hl 1 rfl) ?_
      exact w_keep_b35 C fu K7 hK7 x2 x1 st4 hf (lv_sub hl [0, 2] rfl) hM
    · replace hf := fc_of_t hf c9
      refine lv_aload_n C.1 C.2.1 (dd_at td_keep 15 rfl) rfl (lv_at hl 0 rfl) ?_
      refine mm_gA C hM 16 (dd_at td_keep 16 rfl) (by decide) (by decide) (by decide) ?_
      refine lv_iload_n C.1 C.2.1 (dd_at td_keep 17 rfl) rfl (lv_at hl 2 rfl) ?_
      obtain ⟨g10, hf⟩ := fc_of_gd hf
      refine mm_iald C hM 16 (dd_at td_keep 18 rfl) (by decide) (by decide) (fc_of_ix g10) ?_
      refine lv_goto (tgt := 35) C.1 C.2.1 (dd_at td_keep 19 rfl) (by decide) ?_
      exact w_keep_b35 C fu K7 hK7 x2 (mm_G st4 16 x2.toNatClampNeg) st4 hf (lv_sub hl [0, 2] rfl) hM
theorem w_keep_b7 {p : Program} {l : Launch} {e : Env} {s : State} {m : MethodId} {args : Array Value} {below : List Frame} {meth : Method} {c : Code} {D : va_G} {o : Nat} {ad : Nat → Nat} {cs : ClassId × ClassId × ClassId} {r : Int32} {st' : mm_S} (C : mm_C p s m args meth c cX12_keep 3 (some .int) D cs) (fu : Nat) (n : Nat) : ∀ (x1 : Int32) (x2 : Int32) (st : mm_S), M_keep_b7 fu n x1 x2 st = some (r, st') → ∀ (H : Heap) (locs : List Loc) (ls : Array Slot), lv_has ls 3 [(0, .ref o), (1, .int x1), (2, .int x2)] → mm_H D o ad cs s.heap st H locs → W p l e (mm_R 1 20) s m args below meth c H locs 0 0 (MQ below (mm_Qi D o ad cs r st') args s 0 0 (mm_A o ad)) (F0 m 7 ls []) := by
  induction n with
  | zero => exact fun _ _ _ hf => fc_no hf
  | succ n ih =>
    intro x1 x2 st hf H locs ls hl hM
    exact w_keep_b7F C fu (fun x1 x2 st => M_keep_b7 fu n x1 x2 st) (fun x1 x2 st H locs ls hf hl hM => ih x1 x2 st hf H locs ls hl hM) x1 x2 st hf hl hM
theorem w_keep {p : Program} {l : Launch} {e : Env} {s : State} {m : MethodId} {args : Array Value} {below : List Frame} {meth : Method} {c : Code} {D : va_G} {o : Nat} {ad : Nat → Nat} {cs : ClassId × ClassId × ClassId} {r : Int32} {st' : mm_S} (C : mm_C p s m args meth c cX12_keep 3 (some .int) D cs) (fu : Nat) (st : mm_S) (hf : M_keep fu st = some (r, st')) {H : Heap} {locs : List Loc} {ls : Array Slot} (hl : lv_has ls 3 [(0, .ref o)]) (hM : mm_H D o ad cs s.heap st H locs) : W p l e (mm_R 1 20) s m args below meth c H locs 0 0 (MQ below (mm_Qi D o ad cs r st') args s 0 0 (mm_A o ad)) (F0 m 0 ls []) := by
  unfold M_keep at hf
  refine lv_iconst (v := (1 : Int32)) C.1 C.2.1 (dd_at td_keep 0 rfl) (by decide) ?_
  refine lv_istore_n (lv' := [(1, .int (1 : Int32)), (0, .ref o)]) C.1 C.2.1 (dd_at td_keep 1 rfl) rfl hl (by decide) rfl (fun ls hl => ?_)
  refine lv_aload_n C.1 C.2.1 (dd_at td_keep 2 rfl) rfl (lv_at hl 1 rfl) ?_
  obtain ⟨r3, st1, hx2, hf⟩ := fc_of_bn hf
  refine mm_ci (As := []) (rest := []) (n := 0) C hM (c_begin l D o ad cs fu st) (List.mem_of_getElem? (i := 1) rfl) (dd_at td_keep 3 rfl) hx2 hl.1 hd_begin ⟨Nat.le_of_ble_eq_true rfl, Nat.le_of_ble_eq_true rfl⟩ rfl rfl (Nat.le_of_ble_eq_true rfl) ⟨Nat.le_refl 0, Nat.le_refl 0⟩ (fun H locs hM => ?_)
  refine lv_istore_n (lv' := [(2, .int r3), (1, .int (1 : Int32)), (0, .ref o)]) C.1 C.2.1 (dd_at td_keep 4 rfl) rfl hl (by decide) rfl (fun ls hl => ?_)
  exact w_keep_b7 C fu fu (1 : Int32) r3 st1 hf _ _ _ (lv_sub hl [2, 1, 0] rfl) hM
theorem c_keep (l : Launch) (D : va_G) (o : Nat) (ad : Nat → Nat) (cs : ClassId × ClassId × ClassId) (fu : Nat) (st : mm_S) : mm_Mi l D o ad cs yX12_keep cX12_keep 3 (some .int) 1 20 [] st (M_keep fu st) := by
  intro r st' hf
  refine mm_enter (cc := cX12_keep) (nL := 3) (ret := some .int) (by decide) rfl (Nat.le_of_ble_eq_true rfl) ?_
  intro p e s m args below meth c ls C hl hM
  exact w_keep C fu st hf hl hM

/-! factOf -/
def tb_factOf : List (Nat × Instr × Nat) := [(0, .iload_n 1, 1), (1, .tableswitch 64 0 4 #[35, 37, 44, 51, 56], 35), (36, .iload_n 2, 1), (37, .ireturn, 1), (38, .aload_n 0, 1), (39, .getfield 22, 3), (42, .iload_n 2, 1), (43, .iaload, 1), (44, .ireturn, 1), (45, .aload_n 0, 1), (46, .getfield 26, 3), (49, .iload_n 2, 1), (50, .iaload, 1), (51, .ireturn, 1), (52, .iload_n 3, 1), (53, .bipush 10, 2), (55, .irem, 1), (56, .ireturn, 1), (57, .iload_n 3, 1), (58, .bipush 10, 2), (60, .idiv, 1), (61, .bipush 10, 2), (63, .irem, 1), (64, .ireturn, 1), (65, .iload 4, 2), (67, .ireturn, 1)]
theorem td_factOf : tb_factOf.all (fun q => decide (decode cX12_factOf q.1 = .ok (q.2.1, q.2.2))) = true := by decide +kernel
theorem hd_factOf : yX12_factOf.cls = RX12 ∧ yX12_factOf.cls ≠ "java/lang/invoke/MethodHandle" ∧ yX12_factOf.cls ≠ "java/lang/invoke/VarHandle" ∧ (parseMethodDescriptor yX12_factOf.desc).map (fun d => d.parameters.length) = some 4 := by decide +kernel
theorem w_factOf {p : Program} {l : Launch} {e : Env} {s : State} {m : MethodId} {args : Array Value} {below : List Frame} {meth : Method} {c : Code} {D : va_G} {o : Nat} {ad : Nat → Nat} {cs : ClassId × ClassId × ClassId} {r : Int32} {st' : mm_S} (C : mm_C p s m args meth c cX12_factOf 5 (some .int) D cs) (fu : Nat) (x1 : Int32) (x2 : Int32) (x3 : Int32) (x4 : Int32) (st : mm_S) (hf : M_factOf fu x1 x2 x3 x4 st = some (r, st')) {H : Heap} {locs : List Loc} {ls : Array Slot} (hl : lv_has ls 5 [(0, .ref o), (1, .int x1), (2, .int x2), (3, .int x3), (4, .int x4)]) (hM : mm_H D o ad cs s.heap st H locs) : W p l e (mm_R 0 0) s m args below meth c H locs 0 0 (MQ below (mm_Qi D o ad cs r st') args s 0 0 (mm_A o ad)) (F0 m 0 ls []) := by
  unfold M_factOf at hf
  refine lv_iload_n C.1 C.2.1 (dd_at td_factOf 0 rfl) rfl (lv_at hl 1 rfl) ?_
  by_cases c1 : x1 = (0 : Int32)
  · replace hf := fc_of_t hf c1
    refine lv_tableIn (off := 35) (tgt := 36) C.1 C.2.1 (dd_at td_factOf 1 rfl) (by rw [c1]; decide) (by rw [c1]; decide) (by rw [c1]; decide) (by decide) ?_
    refine lv_iload_n C.1 C.2.1 (dd_at td_factOf 2 rfl) rfl (lv_at hl 2 rfl) ?_
    exact mm_ri C hM (dd_at td_factOf 3 rfl) hf
  · replace hf := fc_of_f hf c1
    by_cases c2 : x1 = (1 : Int32)
    · replace hf := fc_of_t hf c2
      refine lv_tableIn (off := 37) (tgt := 38) C.1 C.2.1 (dd_at td_factOf 1 rfl) (by rw [c2]; decide) (by rw [c2]; decide) (by rw [c2]; decide) (by decide) ?_
      refine lv_aload_n C.1 C.2.1 (dd_at td_factOf 4 rfl) rfl (lv_at hl 0 rfl) ?_
      refine mm_gA C hM 4 (dd_at td_factOf 5 rfl) (by decide) (by decide) (by decide) ?_
      refine lv_iload_n C.1 C.2.1 (dd_at td_factOf 6 rfl) rfl (lv_at hl 2 rfl) ?_
      obtain ⟨g3, hf⟩ := fc_of_gd hf
      refine mm_iald C hM 4 (dd_at td_factOf 7 rfl) (by decide) (by decide) (fc_of_ix g3) ?_
      exact mm_ri C hM (dd_at td_factOf 8 rfl) hf
    · replace hf := fc_of_f hf c2
      by_cases c4 : x1 = (2 : Int32)
      · replace hf := fc_of_t hf c4
        refine lv_tableIn (off := 44) (tgt := 45) C.1 C.2.1 (dd_at td_factOf 1 rfl) (by rw [c4]; decide) (by rw [c4]; decide) (by rw [c4]; decide) (by decide) ?_
        refine lv_aload_n C.1 C.2.1 (dd_at td_factOf 9 rfl) rfl (lv_at hl 0 rfl) ?_
        refine mm_gA C hM 5 (dd_at td_factOf 10 rfl) (by decide) (by decide) (by decide) ?_
        refine lv_iload_n C.1 C.2.1 (dd_at td_factOf 11 rfl) rfl (lv_at hl 2 rfl) ?_
        obtain ⟨g5, hf⟩ := fc_of_gd hf
        refine mm_iald C hM 5 (dd_at td_factOf 12 rfl) (by decide) (by decide) (fc_of_ix g5) ?_
        exact mm_ri C hM (dd_at td_factOf 13 rfl) hf
      · replace hf := fc_of_f hf c4
        by_cases c6 : x1 = (3 : Int32)
        · replace hf := fc_of_t hf c6
          refine lv_tableIn (off := 51) (tgt := 52) C.1 C.2.1 (dd_at td_factOf 1 rfl) (by rw [c6]; decide) (by rw [c6]; decide) (by rw [c6]; decide) (by decide) ?_
          refine lv_iload_n C.1 C.2.1 (dd_at td_factOf 14 rfl) rfl (lv_at hl 3 rfl) ?_
          refine lv_bipush (v := (10 : Int32)) C.1 C.2.1 (dd_at td_factOf 15 rfl) (by decide) ?_
          refine lv_irem C.1 C.2.1 (dd_at td_factOf 16 rfl) (by decide) ?_
          exact mm_ri C hM (dd_at td_factOf 17 rfl) hf
        · replace hf := fc_of_f hf c6
          by_cases c7 : x1 = (4 : Int32)
          · replace hf := fc_of_t hf c7
            refine lv_tableIn (off := 56) (tgt := 57) C.1 C.2.1 (dd_at td_factOf 1 rfl) (by rw [c7]; decide) (by rw [c7]; decide) (by rw [c7]; decide) (by decide) ?_
            refine lv_iload_n C.1 C.2.1 (dd_at td_factOf 18 rfl) rfl (lv_at hl 3 rfl) ?_
            refine lv_bipush (v := (10 : Int32)) C.1 C.2.1 (dd_at td_factOf 19 rfl) (by decide) ?_
            refine lv_idiv C.1 C.2.1 (dd_at td_factOf 20 rfl) (by decide) ?_
            refine lv_bipush (v := (10 : Int32)) C.1 C.2.1 (dd_at td_factOf 21 rfl) (by decide) ?_
            refine lv_irem C.1 C.2.1 (dd_at td_factOf 22 rfl) (by decide) ?_
            exact mm_ri C hM (dd_at td_factOf 23 rfl) hf
          · replace hf := fc_of_f hf c7
            refine lv_tableOut (tgt := 65) C.1 C.2.1 (dd_at td_factOf 1 rfl) (by have q0 := lv_neT c1 (a := 0) (by decide); have q1 := lv_neT c2 (a := 1) (by decide); have q2 := lv_neT c4 (a := 2) (by decide); have q3 := lv_neT c6 (a := 3) (by decide); have q4 := lv_neT c7 (a := 4) (by decide); omega) (by decide) ?_
            refine lv_iload C.1 C.2.1 (dd_at td_factOf 24 rfl) (lv_at hl 4 rfl) ?_
            exact mm_ri C hM (dd_at td_factOf 25 rfl) hf
theorem c_factOf (l : Launch) (D : va_G) (o : Nat) (ad : Nat → Nat) (cs : ClassId × ClassId × ClassId) (fu : Nat) (x1 : Int32) (x2 : Int32) (x3 : Int32) (x4 : Int32) (st : mm_S) : mm_Mi l D o ad cs yX12_factOf cX12_factOf 5 (some .int) 0 0 [.int x1, .int x2, .int x3, .int x4] st (M_factOf fu x1 x2 x3 x4 st) := by
  intro r st' hf
  refine mm_enter (cc := cX12_factOf) (nL := 5) (ret := some .int) (by decide) rfl (Nat.le_of_ble_eq_true rfl) ?_
  intro p e s m args below meth c ls C hl hM
  exact w_factOf C fu x1 x2 x3 x4 st hf hl hM

/-! holds -/
def tb_holds : List (Nat × Instr × Nat) := [(0, .iconst 0, 1), (1, .istore 5, 2), (3, .aload_n 0, 1), (4, .getfield 62, 3), (7, .iload_n 1, 1), (8, .iaload, 1), (9, .istore 6, 2), (11, .iload 6, 2), (13, .aload_n 0, 1), (14, .getfield 65, 3), (17, .iload_n 1, 1), (18, .iaload, 1), (19, .if_icmp .ge 236, 3), (22, .aload_n 0, 1), (23, .getfield 68, 3), (26, .iload 6, 2), (28, .iaload, 1), (29, .istore 7, 2), (31, .iload 7, 2), (33, .bipush (-33), 2), (35, .if_icmp .ne 32, 3), (38, .aload_n 0, 1), (39, .getfield 86, 3), (42, .iload 5, 2), (44, .iconst 1, 1), (45, .isub, 1), (46, .aload_n 0, 1), (47, .getfield 86, 3), (50, .iload 5, 2), (52, .iconst 1, 1), (53, .isub, 1), (54, .baload, 1), (55, .ifCond .ne 7, 3), (58, .iconst 1, 1), (59, .goto 4, 3), (62, .iconst 0, 1), (63, .bastore, 1), (64, .goto 185, 3), (67, .iload 7, 2), (69, .ifCond .ge 82, 3), (72, .iinc 5 (-1), 3), (75, .aload_n 0, 1), (76, .getfield 86, 3), (79, .iload 5, 2), (81, .iconst 1, 1), (82, .isub, 1), (83, .iload 7, 2), (85, .bipush (-38), 2), (87, .if_icmp .ne 33, 3), (90, .aload_n 0, 1), (91, .getfield 86, 3), (94, .iload 5, 2), (96, .iconst 1, 1), (97, .isub, 1), (98, .baload, 1), (99, .ifCond .eq 17, 3), (102, .aload_n 0, 1), (103, .getfield 86, 3), (106, .iload 5, 2), (108, .baload, 1), (109, .ifCond .eq 7, 3), (112, .iconst 1, 1), (113, .goto 34, 3), (116, .iconst 0, 1), (117, .goto 30, 3), (120, .aload_n 0, 1), (121, .getfield 86, 3), (124, .iload 5, 2), (126, .iconst 1, 1), (127, .isub, 1), (128, .baload, 1), (129, .ifCond .ne 13, 3), (132, .aload_n 0, 1), (133, .getfield 86, 3), (136, .iload 5, 2), (138, .baload, 1), (139, .ifCond .eq 7, 3), (142, .iconst 1, 1), (143, .goto 4, 3), (146, .iconst 0, 1), (147, .bastore, 1), (148, .goto 101, 3), (151, .aload_n 0, 1), (152, .iload 7, 2), (154, .sipush 1000, 3), (157, .idiv, 1), (158, .iload_n 2, 1), (159, .iload_n 3, 1), (160, .iload 4, 2), (162, .invokevirtual 270, 3), (165, .istore 8, 2), (167, .iload 7, 2), (169, .bipush 100, 2), (171, .idiv, 1), (172, .bipush 10, 2), (174, .irem, 1), (175, .istore 9, 2), (177, .aload_n 0, 1), (178, .getfield 86, 3), (181, .iload 5, 2), (183, .iload 9, 2), (185, .ifCond .ne 21, 3), (188, .iload 8, 2), (190, .iload 7, 2), (192, .bipush 100, 2), (194, .irem, 1), (195, .if_icmp .ge 7, 3), (198, .iconst 1, 1), (199, .goto 46, 3), (202, .iconst 0, 1), (203, .goto 42, 3), (206, .iload 9, 2), (208, .iconst 1, 1), (209, .if_icmp .ne 21, 3), (212, .iload 8, 2), (214, .iload 7, 2), (216, .bipush 100, 2), (218, .irem, 1), (219, .if_icmp .ne 7, 3), (222, .iconst 1, 1), (223, .goto 22, 3), (226, .iconst 0, 1), (227, .goto 18, 3), (230, .iload 8, 2), (232, .iload 7, 2), (234, .bipush 100, 2), (236, .irem, 1), (237, .if_icmp .le 7, 3), (240, .iconst 1, 1), (241, .goto 4, 3), (244, .iconst 0, 1), (245, .bastore, 1), (246, .iinc 5 1, 3), (249, .iinc 6 1, 3), (252, .goto (-241), 3), (255, .aload_n 0, 1), (256, .getfield 86, 3), (259, .iconst 0, 1), (260, .baload, 1), (261, .ireturn, 1)]
theorem td_holds : tb_holds.all (fun q => decide (decode cX12_holds q.1 = .ok (q.2.1, q.2.2))) = true := by decide +kernel
theorem hd_holds : yX12_holds.cls = RX12 ∧ yX12_holds.cls ≠ "java/lang/invoke/MethodHandle" ∧ yX12_holds.cls ≠ "java/lang/invoke/VarHandle" ∧ (parseMethodDescriptor yX12_holds.desc).map (fun d => d.parameters.length) = some 4 := by decide +kernel
theorem w_holds_b249 {p : Program} {l : Launch} {e : Env} {s : State} {m : MethodId} {args : Array Value} {below : List Frame} {meth : Method} {c : Code} {D : va_G} {o : Nat} {ad : Nat → Nat} {cs : ClassId × ClassId × ClassId} {r : Int32} {st' : mm_S} (C : mm_C p s m args meth c cX12_holds 10 (some .boolean) D cs) (fu : Nat) (K11 : Int32 → Int32 → Int32 → Int32 → Int32 → Int32 → mm_S → Option (Int32 × mm_S)) (hK11 : ∀ (x1 : Int32) (x2 : Int32) (x3 : Int32) (x4 : Int32) (x5 : Int32) (x6 : Int32) (st : mm_S) (H : Heap) (locs : List Loc) (ls : Array Slot), K11 x1 x2 x3 x4 x5 x6 st = some (r, st') → lv_has ls 10 [(0, .ref o), (1, .int x1), (2, .int x2), (3, .int x3), (4, .int x4), (5, .int x5), (6, .int x6)] → mm_H D o ad cs s.heap st H locs → W p l e (mm_R 1 24) s m args below meth c H locs 0 0 (MQ below (mm_Qi D o ad cs r st') args s 0 0 (mm_A o ad)) (F0 m 11 ls [])) (x1 : Int32) (x2 : Int32) (x3 : Int32) (x4 : Int32) (x5 : Int32) (x6 : Int32) (st : mm_S) (hf : M_holds_b249 fu K11 x1 x2 x3 x4 x5 x6 st = some (r, st')) {H : Heap} {locs : List Loc} {ls : Array Slot} (hl : lv_has ls 10 [(0, .ref o), (1, .int x1), (2, .int x2), (3, .int x3), (4, .int x4), (5, .int x5), (6, .int x6)]) (hM : mm_H D o ad cs s.heap st H locs) : W p l e (mm_R 1 24) s m args below meth c H locs 0 0 (MQ below (mm_Qi D o ad cs r st') args s 0 0 (mm_A o ad)) (F0 m 249 ls []) := by
  unfold M_holds_b249 at hf
  obtain ⟨v39, ev39⟩ : ∃ y : Int32, y = x6 + (1 : Int32) := ⟨_, rfl⟩
  replace hf := fc_of_nm hf v39 ev39
  refine lv_iinc (v := v39) (lv' := [(6, .int v39), (0, .ref o), (1, .int x1), (2, .int x2), (3, .int x3), (4, .int x4), (5, .int x5)]) C.1 C.2.1 (dd_at td_holds 133 rfl) hl (k := 6) rfl (by rw [ev39]; rfl) (by decide) rfl (fun ls hl => ?_)
  refine lv_goto (tgt := 11) C.1 C.2.1 (dd_at td_holds 134 rfl) (by decide) ?_
  exact hK11 x1 x2 x3 x4 x5 v39 st _ _ _ hf (lv_sub hl [1, 2, 3, 4, 5, 6, 0] rfl) hM
theorem w_holds_b245 {p : Program} {l : Launch} {e : Env} {s : State} {m : MethodId} {args : Array Value} {below : List Frame} {meth : Method} {c : Code} {D : va_G} {o : Nat} {ad : Nat → Nat} {cs : ClassId × ClassId × ClassId} {r : Int32} {st' : mm_S} (C : mm_C p s m args meth c cX12_holds 10 (some .boolean) D cs) (fu : Nat) (K11 : Int32 → Int32 → Int32 → Int32 → Int32 → Int32 → mm_S → Option (Int32 × mm_S)) (hK11 : ∀ (x1 : Int32) (x2 : Int32) (x3 : Int32) (x4 : Int32) (x5 : Int32) (x6 : Int32) (st : mm_S) (H : Heap) (locs : List Loc) (ls : Array Slot), K11 x1 x2 x3 x4 x5 x6 st = some (r, st') → lv_has ls 10 [(0, .ref o), (1, .int x1), (2, .int x2), (3, .int x3), (4, .int x4), (5, .int x5), (6, .int x6)] → mm_H D o ad cs s.heap st H locs → W p l e (mm_R 1 24) s m args below meth c H locs 0 0 (MQ below (mm_Qi D o ad cs r st') args s 0 0 (mm_A o ad)) (F0 m 11 ls [])) (x1 : Int32) (x2 : Int32) (x3 : Int32) (x4 : Int32) (x5 : Int32) (x6 : Int32) (s0 : Int32) (s1 : Int32) (st : mm_S) (hf : M_holds_b245 fu K11 x1 x2 x3 x4 x5 x6 s0 s1 st = some (r, st')) {H : Heap} {locs : List Loc} {ls : Array Slot} (hl : lv_has ls 10 [(0, .ref o), (1, .int x1), (2, .int x2), (3, .int x3), (4, .int x4), (5, .int x5), (6, .int x6)]) (hM : mm_H D o ad cs s.heap st H locs) : W p l e (mm_R 1 24) s m args below meth c H locs 0 0 (MQ below (mm_Qi D o ad cs r st') args s 0 0 (mm_A o ad)) (F0 m 245 ls [.int s0, .int s1, .ref (ad 25)]) := by
  unfold M_holds_b245 at hf
  obtain ⟨g32, hf⟩ := fc_of_gd hf
  refine mm_zast C hM 25 (dd_at td_holds 131 rfl) (by decide) (by decide) (fc_of_ix g32) (fun st33 H locs est33 hM => ?_)
  replace hf := fc_of_nm hf st33 est33
  obtain ⟨v34, ev34⟩ : ∃ y : Int32, y = x5 + (1 : Int32) := ⟨_, rfl⟩
  replace hf := fc_of_nm hf v34 ev34
  refine lv_iinc (v := v34) (lv' := [(5, .int v34), (0, .ref o), (1, .int x1), (2, .int x2), (3, .int x3), (4, .int x4), (6, .int x6)]) C.1 C.2.1 (dd_at td_holds 132 rfl) hl (k := 5) rfl (by rw [ev34]; rfl) (by decide) rfl (fun ls hl => ?_)
  exact w_holds_b249 C fu K11 hK11 x1 x2 x3 x4 v34 x6 st33 hf (lv_sub hl [1, 2, 3, 4, 5, 0, 6] rfl) hM
theorem w_holds_b147 {p : Program} {l : Launch} {e : Env} {s : State} {m : MethodId} {args : Array Value} {below : List Frame} {meth : Method} {c : Code} {D : va_G} {o : Nat} {ad : Nat → Nat} {cs : ClassId × ClassId × ClassId} {r : Int32} {st' : mm_S} (C : mm_C p s m args meth c cX12_holds 10 (some .boolean) D cs) (fu : Nat) (K11 : Int32 → Int32 → Int32 → Int32 → Int32 → Int32 → mm_S → Option (Int32 × mm_S)) (hK11 : ∀ (x1 : Int32) (x2 : Int32) (x3 : Int32) (x4 : Int32) (x5 : Int32) (x6 : Int32) (st : mm_S) (H : Heap) (locs : List Loc) (ls : Array Slot), K11 x1 x2 x3 x4 x5 x6 st = some (r, st') → lv_has ls 10 [(0, .ref o), (1, .int x1), (2, .int x2), (3, .int x3), (4, .int x4), (5, .int x5), (6, .int x6)] → mm_H D o ad cs s.heap st H locs → W p l e (mm_R 1 24) s m args below meth c H locs 0 0 (MQ below (mm_Qi D o ad cs r st') args s 0 0 (mm_A o ad)) (F0 m 11 ls [])) (x1 : Int32) (x2 : Int32) (x3 : Int32) (x4 : Int32) (x5 : Int32) (x6 : Int32) (s0 : Int32) (s1 : Int32) (st : mm_S) (hf : M_holds_b147 fu K11 x1 x2 x3 x4 x5 x6 s0 s1 st = some (r, st')) {H : Heap} {locs : List Loc} {ls : Array Slot} (hl : lv_has ls 10 [(0, .ref o), (1, .int x1), (2, .int x2), (3, .int x3), (4, .int x4), (5, .int x5), (6, .int x6)]) (hM : mm_H D o ad cs s.heap st H locs) : W p l e (mm_R 1 24) s m args below meth c H locs 0 0 (MQ below (mm_Qi D o ad cs r st') args s 0 0 (mm_A o ad)) (F0 m 147 ls [.int s0, .int s1, .ref (ad 25)]) := by
  unfold M_holds_b147 at hf
  obtain ⟨g35, hf⟩ := fc_of_gd hf
  refine mm_zast C hM 25 (dd_at td_holds 80 rfl) (by decide) (by decide) (fc_of_ix g35) (fun st36 H locs est36 hM => ?_)
  replace hf := fc_of_nm hf st36 est36
  refine lv_goto (tgt := 249) C.1 C.2.1 (dd_at td_holds 81 rfl) (by decide) ?_
  exact w_holds_b249 C fu K11 hK11 x1 x2 x3 x4 x5 x6 st36 hf (lv_sub hl [0, 1, 2, 3, 4, 5, 6] rfl) hM
theorem w_holds_b142 {p : Program} {l : Launch} {e : Env} {s : State} {m : MethodId} {args : Array Value} {below : List Frame} {meth : Method} {c : Code} {D : va_G} {o : Nat} {ad : Nat → Nat} {cs : ClassId × ClassId × ClassId} {r : Int32} {st' : mm_S} (C : mm_C p s m args meth c cX12_holds 10 (some .boolean) D cs) (fu : Nat) (K11 : Int32 → Int32 → Int32 → Int32 → Int32 → Int32 → mm_S → Option (Int32 × mm_S)) (hK11 : ∀ (x1 : Int32) (x2 : Int32) (x3 : Int32) (x4 : Int32) (x5 : Int32) (x6 : Int32) (st : mm_S) (H : Heap) (locs : List Loc) (ls : Array Slot), K11 x1 x2 x3 x4 x5 x6 st = some (r, st') → lv_has ls 10 [(0, .ref o), (1, .int x1), (2, .int x2), (3, .int x3), (4, .int x4), (5, .int x5), (6, .int x6)] → mm_H D o ad cs s.heap st H locs → W p l e (mm_R 1 24) s m args below meth c H locs 0 0 (MQ below (mm_Qi D o ad cs r st') args s 0 0 (mm_A o ad)) (F0 m 11 ls [])) (x1 : Int32) (x2 : Int32) (x3 : Int32) (x4 : Int32) (x5 : Int32) (x6 : Int32) (s0 : Int32) (st : mm_S) (hf : M_holds_b142 fu K11 x1 x2 x3 x4 x5 x6 s0 st = some (r, st')) {H : Heap} {locs : List Loc} {ls : Array Slot} (hl : lv_has ls 10 [(0, .ref o), (1, .int x1), (2, .int x2), (3, .int x3), (4, .int x4), (5, .int x5), (6, .int x6)]) (hM : mm_H D o ad cs s.heap st H locs) : W p l e (mm_R 1 24) s m args below meth c H locs 0 0 (MQ below (mm_Qi D o ad cs r st') args s 0 0 (mm_A o ad)) (F0 m 142 ls [.int s0, .ref (ad 25)]) := by
  unfold M_holds_b142 at hf
  refine lv_iconst (v := (1 : Int32)) C.1 C.2.1 (dd_at td_holds 77 rfl) (by decide) ?_
  refine lv_goto (tgt := 147) C.1 C.2.1 (dd_at td_holds 78 rfl) (by decide) ?_
  exact w_holds_b147 C fu K11 hK11 x1 x2 x3 x4 x5 x6 (1 : Int32) s0 st hf (lv_sub hl [0, 1, 2, 3, 4, 5, 6] rfl) hM
theorem w_holds_b116 {p : Program} {l : Launch} {e : Env} {s : State} {m : MethodId} {args : Array Value} {below : List Frame} {meth : Method} {c : Code} {D : va_G} {o : Nat} {ad : Nat → Nat} {cs : ClassId × ClassId × ClassId} {r : Int32} {st' : mm_S} (C : mm_C p s m args meth c cX12_holds 10 (some .boolean) D cs) (fu : Nat) (K11 : Int32 → Int32 → Int32 → Int32 → Int32 → Int32 → mm_S → Option (Int32 × mm_S)) (hK11 : ∀ (x1 : Int32) (x2 : Int32) (x3 : Int32) (x4 : Int32) (x5 : Int32) (x6 : Int32) (st : mm_S) (H : Heap) (locs : List Loc) (ls : Array Slot), K11 x1 x2 x3 x4 x5 x6 st = some (r, st') → lv_has ls 10 [(0, .ref o), (1, .int x1), (2, .int x2), (3, .int x3), (4, .int x4), (5, .int x5), (6, .int x6)] → mm_H D o ad cs s.heap st H locs → W p l e (mm_R 1 24) s m args below meth c H locs 0 0 (MQ below (mm_Qi D o ad cs r st') args s 0 0 (mm_A o ad)) (F0 m 11 ls [])) (x1 : Int32) (x2 : Int32) (x3 : Int32) (x4 : Int32) (x5 : Int32) (x6 : Int32) (s0 : Int32) (st : mm_S) (hf : M_holds_b116 fu K11 x1 x2 x3 x4 x5 x6 s0 st = some (r, st')) {H : Heap} {locs : List Loc} {ls : Array Slot} (hl : lv_has ls 10 [(0, .ref o), (1, .int x1), (2, .int x2), (3, .int x3), (4, .int x4), (5, .int x5), (6, .int x6)]) (hM : mm_H D o ad cs s.heap st H locs) : W p l e (mm_R 1 24) s m args below meth c H locs 0 0 (MQ below (mm_Qi D o ad cs r st') args s 0 0 (mm_A o ad)) (F0 m 116 ls [.int s0, .ref (ad 25)]) := by
  unfold M_holds_b116 at hf
  refine lv_iconst (v := (0 : Int32)) C.1 C.2.1 (dd_at td_holds 63 rfl) (by decide) ?_
  refine lv_goto (tgt := 147) C.1 C.2.1 (dd_at td_holds 64 rfl) (by decide) ?_
  exact w_holds_b147 C fu K11 hK11 x1 x2 x3 x4 x5 x6 (0 : Int32) s0 st hf (lv_sub hl [0, 1, 2, 3, 4, 5, 6] rfl) hM
theorem w_holds_b63 {p : Program} {l : Launch} {e : Env} {s : State} {m : MethodId} {args : Array Value} {below : List Frame} {meth : Method} {c : Code} {D : va_G} {o : Nat} {ad : Nat → Nat} {cs : ClassId × ClassId × ClassId} {r : Int32} {st' : mm_S} (C : mm_C p s m args meth c cX12_holds 10 (some .boolean) D cs) (fu : Nat) (K11 : Int32 → Int32 → Int32 → Int32 → Int32 → Int32 → mm_S → Option (Int32 × mm_S)) (hK11 : ∀ (x1 : Int32) (x2 : Int32) (x3 : Int32) (x4 : Int32) (x5 : Int32) (x6 : Int32) (st : mm_S) (H : Heap) (locs : List Loc) (ls : Array Slot), K11 x1 x2 x3 x4 x5 x6 st = some (r, st') → lv_has ls 10 [(0, .ref o), (1, .int x1), (2, .int x2), (3, .int x3), (4, .int x4), (5, .int x5), (6, .int x6)] → mm_H D o ad cs s.heap st H locs → W p l e (mm_R 1 24) s m args below meth c H locs 0 0 (MQ below (mm_Qi D o ad cs r st') args s 0 0 (mm_A o ad)) (F0 m 11 ls [])) (x1 : Int32) (x2 : Int32) (x3 : Int32) (x4 : Int32) (x5 : Int32) (x6 : Int32) (s0 : Int32) (s1 : Int32) (st : mm_S) (hf : M_holds_b63 fu K11 x1 x2 x3 x4 x5 x6 s0 s1 st = some (r, st')) {H : Heap} {locs : List Loc} {ls : Array Slot} (hl : lv_has ls 10 [(0, .ref o), (1, .int x1), (2, .int x2), (3, .int x3), (4, .int x4), (5, .int x5), (6, .int x6)]) (hM : mm_H D o ad cs s.heap st H locs) : W p l e (mm_R 1 24) s m args below meth c H locs 0 0 (MQ below (mm_Qi D o ad cs r st') args s 0 0 (mm_A o ad)) (F0 m 63 ls [.int s0, .int s1, .ref (ad 25)]) := by
  unfold M_holds_b63 at hf
  obtain ⟨g37, hf⟩ := fc_of_gd hf
  refine mm_zast C hM 25 (dd_at td_holds 36 rfl) (by decide) (by decide) (fc_of_ix g37) (fun st38 H locs est38 hM => ?_)
  replace hf := fc_of_nm hf st38 est38
  refine lv_goto (tgt := 249) C.1 C.2.1 (dd_at td_holds 37 rfl) (by decide) ?_
  exact w_holds_b249 C fu K11 hK11 x1 x2 x3 x4 x5 x6 st38 hf (lv_sub hl [0, 1, 2, 3, 4, 5, 6] rfl) hM
theorem w_holds_b11F {p : Program} {l : Launch} {e : Env} {s : State} {m : MethodId} {args : Array Value} {below : List Frame} {meth : Method} {c : Code} {D : va_G} {o : Nat} {ad : Nat → Nat} {cs : ClassId × ClassId × ClassId} {r : Int32} {st' : mm_S} (C : mm_C p s m args meth c cX12_holds 10 (some .boolean) D cs) (fu : Nat) (K11 : Int32 → Int32 → Int32 → Int32 → Int32 → Int32 → mm_S → Option (Int32 × mm_S)) (hK11 : ∀ (x1 : Int32) (x2 : Int32) (x3 : Int32) (x4 : Int32) (x5 : Int32) (x6 : Int32) (st : mm_S) (H : Heap) (locs : List Loc) (ls : Array Slot), K11 x1 x2 x3 x4 x5 x6 st = some (r, st') → lv_has ls 10 [(0, .ref o), (1, .int x1), (2, .int x2), (3, .int x3), (4, .int x4), (5, .int x5), (6, .int x6)] → mm_H D o ad cs s.heap st H locs → W p l e (mm_R 1 24) s m args below meth c H locs 0 0 (MQ below (mm_Qi D o ad cs r st') args s 0 0 (mm_A o ad)) (F0 m 11 ls [])) (x1 : Int32) (x2 : Int32) (x3 : Int32) (x4 : Int32) (x5 : Int32) (x6 : Int32) (st : mm_S) (hf : M_holds_b11F fu K11 x1 x2 x3 x4 x5 x6 st = some (r, st')) {H : Heap} {locs : List Loc} {ls : Array Slot} (hl : lv_has ls 10 [(0, .ref o), (1, .int x1), (2, .int x2), (3, .int x3), (4, .int x4), (5, .int x5), (6, .int x6)]) (hM : mm_H D o ad cs s.heap st H locs) : W p l e (mm_R 1 24) s m args below meth c H locs 0 0 (MQ below (mm_Qi D o ad cs r st') args s 0 0 (mm_A o ad)) (F0 m 11 ls []) := by
  unfold M_holds_b11F at hf
  refine lv_iload C.1 C.2.1 (dd_at td_holds 7 rfl) (lv_at hl 6 rfl) ?_
  refine lv_aload_n C.1 C.2.1 (dd_at td_holds 8 rfl) rfl (lv_at hl 0 rfl) ?_
  refine mm_gA C hM 18 (dd_at td_holds 9 rfl) (by decide) (by decide) (by decide) ?_
  refine lv_iload_n C.1 C.2.1 (dd_at td_holds 10 rfl) rfl (lv_at hl 1 rfl) ?_
  obtain ⟨g3, hf⟩ := fc_of_gd hf
  refine mm_iald C hM 18 (dd_at td_holds 11 rfl) (by decide) (by decide) (fc_of_ix g3) ?_
  refine lv_icmp_ge (tgt := 255) C.1 C.2.1 (dd_at td_holds 12 rfl) (by decide) (fun c4 => ?_) (fun c4 => ?_)
  · replace hf := fc_of_t hf c4
    refine lv_aload_n C.1 C.2.1 (dd_at td_holds 135 rfl) rfl (lv_at hl 0 rfl) ?_
    refine mm_gA C hM 25 (dd_at td_holds 136 rfl) (by decide) (by decide) (by decide) ?_
    refine lv_iconst (v := (0 : Int32)) C.1 C.2.1 (dd_at td_holds 137 rfl) (by decide) ?_
    obtain ⟨g5, hf⟩ := fc_of_gd hf
    refine mm_zald C hM 25 (dd_at td_holds 138 rfl) (by decide) (by decide) (fc_of_ix g5) ?_
    obtain ⟨g6, hf⟩ := fc_of_gd hf
    exact mm_rz C hM (dd_at td_holds 139 rfl) (fc_of_zb g6) hf
  · replace hf := fc_of_f hf c4
    refine lv_aload_n C.1 C.2.1 (dd_at td_holds 13 rfl) rfl (lv_at hl 0 rfl) ?_
    refine mm_gA C hM 19 (dd_at td_holds 14 rfl) (by decide) (by decide) (by decide) ?_
    refine lv_iload C.1 C.2.1 (dd_at td_holds 15 rfl) (lv_at hl 6 rfl) ?_
    obtain ⟨g7, hf⟩ := fc_of_gd hf
    refine mm_iald C hM 19 (dd_at td_holds 16 rfl) (by decide) (by decide) (fc_of_ix g7) ?_
    refine lv_topi (fun v8 ev8 => ?_)
    replace hf := fc_of_nm hf v8 ev8
    refine lv_istore (lv' := [(7, .int v8), (0, .ref o), (1, .int x1), (2, .int x2), (3, .int x3), (4, .int x4), (5, .int x5), (6, .int x6)]) C.1 C.2.1 (dd_at td_holds 17 rfl) hl (by decide) rfl (fun ls hl => ?_)
    refine lv_iload C.1 C.2.1 (dd_at td_holds 18 rfl) (lv_at hl 0 rfl) ?_
    refine lv_bipush (v := (-33 : Int32)) C.1 C.2.1 (dd_at td_holds 19 rfl) (by decide) ?_
    refine lv_icmp_ne (tgt := 67) C.1 C.2.1 (dd_at td_holds 20 rfl) (by decide) (fun c9 => ?_) (fun c9 => ?_)
    · replace hf := fc_of_f hf c9
      refine lv_iload C.1 C.2.1 (dd_at td_holds 38 rfl) (lv_at hl 0 rfl) ?_
      refine lv_if_ge (tgt := 151) C.1 C.2.1 (dd_at td_holds 39 rfl) (by decide) (fun c10 => ?_) (fun c10 => ?_)
      · replace hf := fc_of_t hf c10
        refine lv_aload_n C.1 C.2.1 (dd_at td_holds 82 rfl) rfl (lv_at hl 1 rfl) ?_
        refine lv_iload C.1 C.2.1 (dd_at td_holds 83 rfl) (lv_at hl 0 rfl) ?_
        refine lv_sipush (v := (1000 : Int32)) C.1 C.2.1 (dd_at td_holds 84 rfl) (by decide) ?_
        refine lv_idiv C.1 C.2.1 (dd_at td_holds 85 rfl) (by decide) ?_
        refine lv_iload_n C.1 C.2.1 (dd_at td_holds 86 rfl) rfl (lv_at hl 3 rfl) ?_
        refine lv_iload_n C.1 C.2.1 (dd_at td_holds 87 rfl) rfl (lv_at hl 4 rfl) ?_
        refine lv_iload C.1 C.2.1 (dd_at td_holds 88 rfl) (lv_at hl 5 rfl) ?_
        obtain ⟨r13, st11, hx12, hf⟩ := fc_of_bn hf
        refine mm_ci (As := [.int (v8 / (1000 : Int32)), .int x2, .int x3, .int x4]) (rest := []) (n := 4) C hM (c_factOf l D o ad cs fu (v8 / (1000 : Int32)) x2 x3 x4 st) (List.mem_of_getElem? (i := 9) rfl) (dd_at td_holds 89 rfl) hx12 hl.1 hd_factOf ⟨Nat.le_of_ble_eq_true rfl, Nat.le_of_ble_eq_true rfl⟩ rfl rfl (Nat.le_of_ble_eq_true rfl) ⟨Nat.le_refl 0, Nat.le_refl 0⟩ (fun H locs hM => ?_)
        refine lv_istore (lv' := [(8, .int r13), (7, .int v8), (0, .ref o), (1, .int x1), (2, .int x2), (3, .int x3), (4, .int x4), (5, .int x5), (6, .int x6)]) C.1 C.2.1 (dd_at td_holds 90 rfl) hl (by decide) rfl (fun ls hl => ?_)
        refine lv_iload C.1 C.2.1 (dd_at td_holds 91 rfl) (lv_at hl 1 rfl) ?_
        refine lv_bipush (v := (100 : Int32)) C.1 C.2.1 (dd_at td_holds 92 rfl) (by decide) ?_
        refine lv_idiv C.1 C.2.1 (dd_at td_holds 93 rfl) (by decide) ?_
        refine lv_bipush (v := (10 : Int32)) C.1 C.2.1 (dd_at td_holds 94 rfl) (by decide) ?_
        refine lv_irem C.1 C.2.1 (dd_at td_holds 95 rfl) (by decide) ?_
        refine lv_topi (fun v14 ev14 => ?_)
        replace hf := fc_of_nm hf v14 ev14
        refine lv_istore (lv' := [(9, .int v14), (8, .int r13), (7, .int v8), (0, .ref o), (1, .int x1), (2, .int x2), (3, .int x3), (4, .int x4), (5, .int x5), (6, .int x6)]) C.1 C.2.1 (dd_at td_holds 96 rfl) hl (by decide) rfl (fun ls hl => ?_)
        refine lv_aload_n C.1 C.2.1 (dd_at td_holds 97 rfl) rfl (lv_at hl 3 rfl) ?_
        refine mm_gA C hM 25 (dd_at td_holds 98 rfl) (by decide) (by decide) (by decide) ?_
        refine lv_iload C.1 C.2.1 (dd_at td_holds 99 rfl) (lv_at hl 8 rfl) ?_
        refine lv_iload C.1 C.2.1 (dd_at td_holds 100 rfl) (lv_at hl 0 rfl) ?_
        refine lv_if_ne (tgt := 206) C.1 C.2.1 (dd_at td_holds 101 rfl) (by decide) (fun c15 => ?_) (fun c15 => ?_)
        · replace hf := fc_of_f hf c15
          refine lv_iload C.1 C.2.1 (dd_at td_holds 111 rfl) (lv_at hl 0 rfl) ?_
          refine lv_iconst (v := (1 : Int32)) C.1 C.2.1 (dd_at td_holds 112 rfl) (by decide) ?_
          refine lv_icmp_ne (tgt := 230) C.1 C.2.1 (dd_at td_holds 113 rfl) (by decide) (fun c16 => ?_) (fun c16 => ?_)
          · replace hf := fc_of_f hf c16
            refine lv_iload C.1 C.2.1 (dd_at td_holds 123 rfl) (lv_at hl 1 rfl) ?_
            refine lv_iload C.1 C.2.1 (dd_at td_holds 124 rfl) (lv_at hl 2 rfl) ?_
            refine lv_bipush (v := (100 : Int32)) C.1 C.2.1 (dd_at td_holds 125 rfl) (by decide) ?_
            refine lv_irem C.1 C.2.1 (dd_at td_holds 126 rfl) (by decide) ?_
            refine lv_icmp_le (tgt := 244) C.1 C.2.1 (dd_at td_holds 127 rfl) (by decide) (fun c17 => ?_) (fun c17 => ?_)
            · replace hf := fc_of_t hf c17
              refine lv_iconst (v := (0 : Int32)) C.1 C.2.1 (dd_at td_holds 130 rfl) (by decide) ?_
              exact w_holds_b245 C fu K11 hK11 x1 x2 x3 x4 x5 x6 (0 : Int32) x5 st11 hf (lv_sub hl [3, 4, 5, 6, 7, 8, 9] rfl) hM
            · replace hf := fc_of_f hf c17
              refine lv_iconst (v := (1 : Int32)) C.1 C.2.1 (dd_at td_holds 128 rfl) (by decide) ?_
              refine lv_goto (tgt := 245) C.1 C.2.1 (dd_at td_holds 129 rfl) (by decide) ?_
              exact w_holds_b245 C fu K11 hK11 x1 x2 x3 x4 x5 x6 (1 : Int32) x5 st11 hf (lv_sub hl [3, 4, 5, 6, 7, 8, 9] rfl) hM
          · replace hf := fc_of_t hf c16
            refine lv_iload C.1 C.2.1 (dd_at td_holds 114 rfl) (lv_at hl 1 rfl) ?_
            refine lv_iload C.1 C.2.1 (dd_at td_holds 115 rfl) (lv_at hl 2 rfl) ?_
            refine lv_bipush (v := (100 : Int32)) C.1 C.2.1 (dd_at td_holds 116 rfl) (by decide) ?_
            refine lv_irem C.1 C.2.1 (dd_at td_holds 117 rfl) (by decide) ?_
            refine lv_icmp_ne (tgt := 226) C.1 C.2.1 (dd_at td_holds 118 rfl) (by decide) (fun c18 => ?_) (fun c18 => ?_)
            · replace hf := fc_of_f hf c18
              refine lv_iconst (v := (0 : Int32)) C.1 C.2.1 (dd_at td_holds 121 rfl) (by decide) ?_
              refine lv_goto (tgt := 245) C.1 C.2.1 (dd_at td_holds 122 rfl) (by decide) ?_
              exact w_holds_b245 C fu K11 hK11 x1 x2 x3 x4 x5 x6 (0 : Int32) x5 st11 hf (lv_sub hl [3, 4, 5, 6, 7, 8, 9] rfl) hM
            · replace hf := fc_of_t hf c18
              refine lv_iconst (v := (1 : Int32)) C.1 C.2.1 (dd_at td_holds 119 rfl) (by decide) ?_
              refine lv_goto (tgt := 245) C.1 C.2.1 (dd_at td_holds 120 rfl) (by decide) ?_
              exact w_holds_b245 C fu K11 hK11 x1 x2 x3 x4 x5 x6 (1 : Int32) x5 st11 hf (lv_sub hl [3, 4, 5, 6, 7, 8, 9] rfl) hM
        · replace hf := fc_of_t hf c15
          refine lv_iload C.1 C.2.1 (dd_at td_holds 102 rfl) (lv_at hl 1 rfl) ?_
          refine lv_iload C.1 C.2.1 (dd_at td_holds 103 rfl) (lv_at hl 2 rfl) ?_
          refine lv_bipush (v := (100 : Int32)) C.1 C.2.1 (dd_at td_holds 104 rfl) (by decide) ?_
          refine lv_irem C.1 C.2.1 (dd_at td_holds 105 rfl) (by decide) ?_
          refine lv_icmp_ge (tgt := 202) C.1 C.2.1 (dd_at td_holds 106 rfl) (by decide) (fun c19 => ?_) (fun c19 => ?_)
          · replace hf := fc_of_t hf c19
            refine lv_iconst (v := (0 : Int32)) C.1 C.2.1 (dd_at td_holds 109 rfl) (by decide) ?_
            refine lv_goto (tgt := 245) C.1 C.2.1 (dd_at td_holds 110 rfl) (by decide) ?_
            exact w_holds_b245 C fu K11 hK11 x1 x2 x3 x4 x5 x6 (0 : Int32) x5 st11 hf (lv_sub hl [3, 4, 5, 6, 7, 8, 9] rfl) hM
          · replace hf := fc_of_f hf c19
            refine lv_iconst (v := (1 : Int32)) C.1 C.2.1 (dd_at td_holds 107 rfl) (by decide) ?_
            refine lv_goto (tgt := 245) C.1 C.2.1 (dd_at td_holds 108 rfl) (by decide) ?_
            exact w_holds_b245 C fu K11 hK11 x1 x2 x3 x4 x5 x6 (1 : Int32) x5 st11 hf (lv_sub hl [3, 4, 5, 6, 7, 8, 9] rfl) hM
      · replace hf := fc_of_f hf c10
        obtain ⟨v20, ev20⟩ : ∃ y : Int32, y = x5 + (-1 : Int32) := ⟨_, rfl⟩
        replace hf := fc_of_nm hf v20 ev20
        refine lv_iinc (v := v20) (lv' := [(5, .int v20), (7, .int v8), (0, .ref o), (1, .int x1), (2, .int x2), (3, .int x3), (4, .int x4), (6, .int x6)]) C.1 C.2.1 (dd_at td_holds 40 rfl) hl (k := 6) rfl (by rw [ev20]; rfl) (by decide) rfl (fun ls hl => ?_)
        refine lv_aload_n C.1 C.2.1 (dd_at td_holds 41 rfl) rfl (lv_at hl 2 rfl) ?_
        refine mm_gA C hM 25 (dd_at td_holds 42 rfl) (by decide) (by decide) (by decide) ?_
        refine lv_iload C.1 C.2.1 (dd_at td_holds 43 rfl) (lv_at hl 0 rfl) ?_
        refine lv_iconst (v := (1 : Int32)) C.1 C.2.1 (dd_at td_holds 44 rfl) (by decide) ?_
        refine lv_isub C.1 C.2.1 (dd_at td_holds 45 rfl) ?_
        refine lv_iload C.1 C.2.1 (dd_at td_holds 46 rfl) (lv_at hl 1 rfl) ?_
        refine lv_bipush (v := (-38 : Int32)) C.1 C.2.1 (dd_at td_holds 47 rfl) (by decide) ?_
        refine lv_icmp_ne (tgt := 120) C.1 C.2.1 (dd_at td_holds 48 rfl) (by decide) (fun c21 => ?_) (fun c21 => ?_)
        · replace hf := fc_of_f hf c21
          refine lv_aload_n C.1 C.2.1 (dd_at td_holds 65 rfl) rfl (lv_at hl 2 rfl) ?_
          refine mm_gA C hM 25 (dd_at td_holds 66 rfl) (by decide) (by decide) (by decide) ?_
          refine lv_iload C.1 C.2.1 (dd_at td_holds 67 rfl) (lv_at hl 0 rfl) ?_
          refine lv_iconst (v := (1 : Int32)) C.1 C.2.1 (dd_at td_holds 68 rfl) (by decide) ?_
          refine lv_isub C.1 C.2.1 (dd_at td_holds 69 rfl) ?_
          obtain ⟨g22, hf⟩ := fc_of_gd hf
          refine mm_zald C hM 25 (dd_at td_holds 70 rfl) (by decide) (by decide) (fc_of_ix g22) ?_
          refine lv_if_ne (tgt := 142) C.1 C.2.1 (dd_at td_holds 71 rfl) (by decide) (fun c23 => ?_) (fun c23 => ?_)
          · replace hf := fc_of_f hf c23
            exact w_holds_b142 C fu K11 hK11 x1 x2 x3 x4 v20 x6 (v20 - (1 : Int32)) st hf (lv_sub hl [2, 3, 4, 5, 6, 0, 7] rfl) hM
          · replace hf := fc_of_t hf c23
            refine lv_aload_n C.1 C.2.1 (dd_at td_holds 72 rfl) rfl (lv_at hl 2 rfl) ?_
            refine mm_gA C hM 25 (dd_at td_holds 73 rfl) (by decide) (by decide) (by decide) ?_
            refine lv_iload C.1 C.2.1 (dd_at td_holds 74 rfl) (lv_at hl 0 rfl) ?_
            obtain ⟨g24, hf⟩ := fc_of_gd hf
            refine mm_zald C hM 25 (dd_at td_holds 75 rfl) (by decide) (by decide) (fc_of_ix g24) ?_
            refine lv_if_eq (tgt := 146) C.1 C.2.1 (dd_at td_holds 76 rfl) (by decide) (fun c25 => ?_) (fun c25 => ?_)
            · replace hf := fc_of_t hf c25
              refine lv_iconst (v := (0 : Int32)) C.1 C.2.1 (dd_at td_holds 79 rfl) (by decide) ?_
              exact w_holds_b147 C fu K11 hK11 x1 x2 x3 x4 v20 x6 (0 : Int32) (v20 - (1 : Int32)) st hf (lv_sub hl [2, 3, 4, 5, 6, 0, 7] rfl) hM
            · replace hf := fc_of_f hf c25
              exact w_holds_b142 C fu K11 hK11 x1 x2 x3 x4 v20 x6 (v20 - (1 : Int32)) st hf (lv_sub hl [2, 3, 4, 5, 6, 0, 7] rfl) hM
        · replace hf := fc_of_t hf c21
          refine lv_aload_n C.1 C.2.1 (dd_at td_holds 49 rfl) rfl (lv_at hl 2 rfl) ?_
          refine mm_gA C hM 25 (dd_at td_holds 50 rfl) (by decide) (by decide) (by decide) ?_
          refine lv_iload C.1 C.2.1 (dd_at td_holds 51 rfl) (lv_at hl 0 rfl) ?_
          refine lv_iconst (v := (1 : Int32)) C.1 C.2.1 (dd_at td_holds 52 rfl) (by decide) ?_
          refine lv_isub C.1 C.2.1 (dd_at td_holds 53 rfl) ?_
          obtain ⟨g26, hf⟩ := fc_of_gd hf
          refine mm_zald C hM 25 (dd_at td_holds 54 rfl) (by decide) (by decide) (fc_of_ix g26) ?_
          refine lv_if_eq (tgt := 116) C.1 C.2.1 (dd_at td_holds 55 rfl) (by decide) (fun c27 => ?_) (fun c27 => ?_)
          · replace hf := fc_of_t hf c27
            exact w_holds_b116 C fu K11 hK11 x1 x2 x3 x4 v20 x6 (v20 - (1 : Int32)) st hf (lv_sub hl [2, 3, 4, 5, 6, 0, 7] rfl) hM
          · replace hf := fc_of_f hf c27
            refine lv_aload_n C.1 C.2.1 (dd_at td_holds 56 rfl) rfl (lv_at hl 2 rfl) ?_
            refine mm_gA C hM 25 (dd_at td_holds 57 rfl) (by decide) (by decide) (by decide) ?_
            refine lv_iload C.1 C.2.1 (dd_at td_holds 58 rfl) (lv_at hl 0 rfl) ?_
            obtain ⟨g28, hf⟩ := fc_of_gd hf
            refine mm_zald C hM 25 (dd_at td_holds 59 rfl) (by decide) (by decide) (fc_of_ix g28) ?_
            refine lv_if_eq (tgt := 116) C.1 C.2.1 (dd_at td_holds 60 rfl) (by decide) (fun c29 => ?_) (fun c29 => ?_)
            · replace hf := fc_of_t hf c29
              exact w_holds_b116 C fu K11 hK11 x1 x2 x3 x4 v20 x6 (v20 - (1 : Int32)) st hf (lv_sub hl [2, 3, 4, 5, 6, 0, 7] rfl) hM
            · replace hf := fc_of_f hf c29
              refine lv_iconst (v := (1 : Int32)) C.1 C.2.1 (dd_at td_holds 61 rfl) (by decide) ?_
              refine lv_goto (tgt := 147) C.1 C.2.1 (dd_at td_holds 62 rfl) (by decide) ?_
              exact w_holds_b147 C fu K11 hK11 x1 x2 x3 x4 v20 x6 (1 : Int32) (v20 - (1 : Int32)) st hf (lv_sub hl [2, 3, 4, 5, 6, 0, 7] rfl) hM
    · replace hf := fc_of_t hf c9
      refine lv_aload_n C.1 C.2.1 (dd_at td_holds 21 rfl) rfl (lv_at hl 1 rfl) ?_
      refine mm_gA C hM 25 (dd_at td_holds 22 rfl) (by decide) (by decide) (by decide) ?_
      refine lv_iload C.1 C.2.1 (dd_at td_holds 23 rfl) (lv_at hl 6 rfl) ?_
      refine lv_iconst (v := (1 : Int32)) C.1 C.2.1 (dd_at td_holds 24 rfl) (by decide) ?_
      refine lv_isub C.1 C.2.1 (dd_at td_holds 25 rfl) ?_
      refine lv_aload_n C.1 C.2.1 (dd_at td_holds 26 rfl) rfl (lv_at hl 1 rfl) ?_
      refine mm_gA C hM 25 (dd_at td_holds 27 rfl) (by decide) (by decide) (by decide) ?_
      refine lv_iload C.1 C.2.1 (dd_at td_holds 28 rfl) (lv_at hl 6 rfl) ?_
      refine lv_iconst (v := (1 : Int32)) C.1 C.2.1 (dd_at td_holds 29 rfl) (by decide) ?_
      refine lv_isub C.1 C.2.1 (dd_at td_holds 30 rfl) ?_
      obtain ⟨g30, hf⟩ := fc_of_gd hf
      refine mm_zald C hM 25 (dd_at td_holds 31 rfl) (by decide) (by decide) (fc_of_ix g30) ?_
      refine lv_if_ne (tgt := 62) C.1 C.2.1 (dd_at td_holds 32 rfl) (by decide) (fun c31 => ?_) (fun c31 => ?_)
      · replace hf := fc_of_f hf c31
        refine lv_iconst (v := (0 : Int32)) C.1 C.2.1 (dd_at td_holds 35 rfl) (by decide) ?_
        exact w_holds_b63 C fu K11 hK11 x1 x2 x3 x4 x5 x6 (0 : Int32) (x5 - (1 : Int32)) st hf (lv_sub hl [1, 2, 3, 4, 5, 6, 7] rfl) hM
      · replace hf := fc_of_t hf c31
        refine lv_iconst (v := (1 : Int32)) C.1 C.2.1 (dd_at td_holds 33 rfl) (by decide) ?_
        refine lv_goto (tgt := 63) C.1 C.2.1 (dd_at td_holds 34 rfl) (by decide) ?_
        exact w_holds_b63 C fu K11 hK11 x1 x2 x3 x4 x5 x6 (1 : Int32) (x5 - (1 : Int32)) st hf (lv_sub hl [1, 2, 3, 4, 5, 6, 7] rfl) hM
theorem w_holds_b11 {p : Program} {l : Launch} {e : Env} {s : State} {m : MethodId} {args : Array Value} {below : List Frame} {meth : Method} {c : Code} {D : va_G} {o : Nat} {ad : Nat → Nat} {cs : ClassId × ClassId × ClassId} {r : Int32} {st' : mm_S} (C : mm_C p s m args meth c cX12_holds 10 (some .boolean) D cs) (fu : Nat) (n : Nat) : ∀ (x1 : Int32) (x2 : Int32) (x3 : Int32) (x4 : Int32) (x5 : Int32) (x6 : Int32) (st : mm_S), M_holds_b11 fu n x1 x2 x3 x4 x5 x6 st = some (r, st') → ∀ (H : Heap) (locs : List Loc) (ls : Array Slot), lv_has ls 10 [(0, .ref o), (1, .int x1), (2, .int x2), (3, .int x3), (4, .int x4), (5, .int x5), (6, .int x6)] → mm_H D o ad cs s.heap st H locs → W p l e (mm_R 1 24) s m args below meth c H locs 0 0 (MQ below (mm_Qi D o ad cs r st') args s 0 0 (mm_A o ad)) (F0 m 11 ls []) := by
  induction n with
  | zero => exact fun _ _ _ _ _ _ _ hf => fc_no hf
  | succ n ih =>
    intro x1 x2 x3 x4 x5 x6 st hf H locs ls hl hM
    exact w_holds_b11F C fu (fun x1 x2 x3 x4 x5 x6 st => M_holds_b11 fu n x1 x2 x3 x4 x5 x6 st) (fun x1 x2 x3 x4 x5 x6 st H locs ls hf hl hM => ih x1 x2 x3 x4 x5 x6 st hf H locs ls hl hM) x1 x2 x3 x4 x5 x6 st hf hl hM
theorem w_holds {p : Program} {l : Launch} {e : Env} {s : State} {m : MethodId} {args : Array Value} {below : List Frame} {meth : Method} {c : Code} {D : va_G} {o : Nat} {ad : Nat → Nat} {cs : ClassId × ClassId × ClassId} {r : Int32} {st' : mm_S} (C : mm_C p s m args meth c cX12_holds 10 (some .boolean) D cs) (fu : Nat) (x1 : Int32) (x2 : Int32) (x3 : Int32) (x4 : Int32) (st : mm_S) (hf : M_holds fu x1 x2 x3 x4 st = some (r, st')) {H : Heap} {locs : List Loc} {ls : Array Slot} (hl : lv_has ls 10 [(0, .ref o), (1, .int x1), (2, .int x2), (3, .int x3), (4, .int x4)]) (hM : mm_H D o ad cs s.heap st H locs) : W p l e (mm_R 1 24) s m args below meth c H locs 0 0 (MQ below (mm_Qi D o ad cs r st') args s 0 0 (mm_A o ad)) (F0 m 0 ls []) := by
  unfold M_holds at hf
  refine lv_iconst (v := (0 : Int32)) C.1 C.2.1 (dd_at td_holds 0 rfl) (by decide) ?_
  refine lv_istore (lv' := [(5, .int (0 : Int32)), (0, .ref o), (1, .int x1), (2, .int x2), (3, .int x3), (4, .int x4)]) C.1 C.2.1 (dd_at td_holds 1 rfl) hl (by decide) rfl (fun ls hl => ?_)
  refine lv_aload_n C.1 C.2.1 (dd_at td_holds 2 rfl) rfl (lv_at hl 1 rfl) ?_
  refine mm_gA C hM 17 (dd_at td_holds 3 rfl) (by decide) (by decide) (by decide) ?_
  refine lv_iload_n C.1 C.2.1 (dd_at td_holds 4 rfl) rfl (lv_at hl 2 rfl) ?_
  obtain ⟨g1, hf⟩ := fc_of_gd hf
  refine mm_iald C hM 17 (dd_at td_holds 5 rfl) (by decide) (by decide) (fc_of_ix g1) ?_
  refine lv_topi (fun v2 ev2 => ?_)
  replace hf := fc_of_nm hf v2 ev2
  refine lv_istore (lv' := [(6, .int v2), (5, .int (0 : Int32)), (0, .ref o), (1, .int x1), (2, .int x2), (3, .int x3), (4, .int x4)]) C.1 C.2.1 (dd_at td_holds 6 rfl) hl (by decide) rfl (fun ls hl => ?_)
  exact w_holds_b11 C fu fu x1 x2 x3 x4 (0 : Int32) v2 st hf _ _ _ (lv_sub hl [2, 3, 4, 5, 6, 1, 0] rfl) hM
theorem c_holds (l : Launch) (D : va_G) (o : Nat) (ad : Nat → Nat) (cs : ClassId × ClassId × ClassId) (fu : Nat) (x1 : Int32) (x2 : Int32) (x3 : Int32) (x4 : Int32) (st : mm_S) : mm_Mi l D o ad cs yX12_holds cX12_holds 10 (some .boolean) 1 24 [.int x1, .int x2, .int x3, .int x4] st (M_holds fu x1 x2 x3 x4 st) := by
  intro r st' hf
  refine mm_enter (cc := cX12_holds) (nL := 10) (ret := some .boolean) (by decide) rfl (Nat.le_of_ble_eq_true rfl) ?_
  intro p e s m args below meth c ls C hl hM
  exact w_holds C fu x1 x2 x3 x4 st hf hl hM

/-! base -/
def tb_base : List (Nat × Instr × Nat) := [(0, .bipush 10, 2), (2, .istore 4, 2), (4, .aload_n 0, 1), (5, .invokevirtual 264, 3), (8, .istore 5, 2), (10, .iload 5, 2), (12, .aload_n 0, 1), (13, .invokevirtual 267, 3), (16, .if_icmp .ge 68, 3), (19, .aload_n 0, 1), (20, .getfield 56, 3), (23, .iload 5, 2), (25, .iaload, 1), (26, .iconst 1, 1), (27, .if_icmp .gt 51, 3), (30, .aload_n 0, 1), (31, .iload 5, 2), (33, .iload_n 1, 1), (34, .iload_n 2, 1), (35, .iload_n 3, 1), (36, .invokevirtual 274, 3), (39, .ifCond .ne 6, 3), (42, .goto 36, 3), (45, .iload 4, 2), (47, .aload_n 0, 1), (48, .getfield 56, 3), (51, .iload 5, 2), (53, .iaload, 1), (54, .ifCond .ne 13, 3), (57, .aload_n 0, 1), (58, .getfield 59, 3), (61, .iload 5, 2), (63, .iaload, 1), (64, .goto 11, 3), (67, .aload_n 0, 1), (68, .getfield 59, 3), (71, .iload 5, 2), (73, .iaload, 1), (74, .ineg, 1), (75, .iadd, 1), (76, .istore 4, 2), (78, .iinc 5 1, 3), (81, .goto (-71), 3), (84, .iload 4, 2), (86, .ireturn, 1)]
theorem td_base : tb_base.all (fun q => decide (decode cX12_base q.1 = .ok (q.2.1, q.2.2))) = true := by decide +kernel
theorem hd_base : yX12_base.cls = RX12 ∧ yX12_base.cls ≠ "java/lang/invoke/MethodHandle" ∧ yX12_base.cls ≠ "java/lang/invoke/VarHandle" ∧ (parseMethodDescriptor yX12_base.desc).map (fun d => d.parameters.length) = some 3 := by decide +kernel
theorem w_base_b78 {p : Program} {l : Launch} {e : Env} {s : State} {m : MethodId} {args : Array Value} {below : List Frame} {meth : Method} {c : Code} {D : va_G} {o : Nat} {ad : Nat → Nat} {cs : ClassId × ClassId × ClassId} {r : Int32} {st' : mm_S} (C : mm_C p s m args meth c cX12_base 6 (some .int) D cs) (fu : Nat) (K10 : Int32 → Int32 → Int32 → Int32 → Int32 → mm_S → Option (Int32 × mm_S)) (hK10 : ∀ (x1 : Int32) (x2 : Int32) (x3 : Int32) (x4 : Int32) (x5 : Int32) (st : mm_S) (H : Heap) (locs : List Loc) (ls : Array Slot), K10 x1 x2 x3 x4 x5 st = some (r, st') → lv_has ls 6 [(0, .ref o), (1, .int x1), (2, .int x2), (3, .int x3), (4, .int x4), (5, .int x5)] → mm_H D o ad cs s.heap st H locs → W p l e (mm_R 2 53) s m args below meth c H locs 0 0 (MQ below (mm_Qi D o ad cs r st') args s 0 0 (mm_A o ad)) (F0 m 10 ls [])) (x1 : Int32) (x2 : Int32) (x3 : Int32) (x4 : Int32) (x5 : Int32) (st : mm_S) (hf : M_base_b78 fu K10 x1 x2 x3 x4 x5 st = some (r, st')) {H : Heap} {locs : List Loc} {ls : Array Slot} (hl : lv_has ls 6 [(0, .ref o), (1, .int x1), (2, .int x2), (3, .int x3), (4, .int x4), (5, .int x5)]) (hM : mm_H D o ad cs s.heap st H locs) : W p l e (mm_R 2 53) s m args below meth c H locs 0 0 (MQ below (mm_Qi D o ad cs r st') args s 0 0 (mm_A o ad)) (F0 m 78 ls []) := by
  unfold M_base_b78 at hf
  obtain ⟨v18, ev18⟩ : ∃ y : Int32, y = x5 + (1 : Int32) := ⟨_, rfl⟩
  replace hf := fc_of_nm hf v18 ev18
  refine lv_iinc (v := v18) (lv' := [(5, .int v18), (0, .ref o), (1, .int x1), (2, .int x2), (3, .int x3), (4, .int x4)]) C.1 C.2.1 (dd_at td_base 41 rfl) hl (k := 5) rfl (by rw [ev18]; rfl) (by decide) rfl (fun ls hl => ?_)
  refine lv_goto (tgt := 10) C.1 C.2.1 (dd_at td_base 42 rfl) (by decide) ?_
  exact hK10 x1 x2 x3 x4 v18 st _ _ _ hf (lv_sub hl [1, 2, 3, 4, 5, 0] rfl) hM
theorem w_base_b75 {p : Program} {l : Launch} {e : Env} {s : State} {m : MethodId} {args : Array Value} {below : List Frame} {meth : Method} {c : Code} {D : va_G} {o : Nat} {ad : Nat → Nat} {cs : ClassId × ClassId × ClassId} {r : Int32} {st' : mm_S} (C : mm_C p s m args meth c cX12_base 6 (some .int) D cs) (fu : Nat) (K10 : Int32 → Int32 → Int32 → Int32 → Int32 → mm_S → Option (Int32 × mm_S)) (hK10 : ∀ (x1 : Int32) (x2 : Int32) (x3 : Int32) (x4 : Int32) (x5 : Int32) (st : mm_S) (H : Heap) (locs : List Loc) (ls : Array Slot), K10 x1 x2 x3 x4 x5 st = some (r, st') → lv_has ls 6 [(0, .ref o), (1, .int x1), (2, .int x2), (3, .int x3), (4, .int x4), (5, .int x5)] → mm_H D o ad cs s.heap st H locs → W p l e (mm_R 2 53) s m args below meth c H locs 0 0 (MQ below (mm_Qi D o ad cs r st') args s 0 0 (mm_A o ad)) (F0 m 10 ls [])) (x1 : Int32) (x2 : Int32) (x3 : Int32) (x5 : Int32) (s0 : Int32) (s1 : Int32) (st : mm_S) (hf : M_base_b75 fu K10 x1 x2 x3 x5 s0 s1 st = some (r, st')) {H : Heap} {locs : List Loc} {ls : Array Slot} (hl : lv_has ls 6 [(0, .ref o), (1, .int x1), (2, .int x2), (3, .int x3), (5, .int x5)]) (hM : mm_H D o ad cs s.heap st H locs) : W p l e (mm_R 2 53) s m args below meth c H locs 0 0 (MQ below (mm_Qi D o ad cs r st') args s 0 0 (mm_A o ad)) (F0 m 75 ls [.int s0, .int s1]) := by
  unfold M_base_b75 at hf
  refine lv_iadd C.1 C.2.1 (dd_at td_base 39 rfl) ?_
  refine lv_topi (fun v19 ev19 => ?_)
  replace hf := fc_of_nm hf v19 ev19
  refine lv_istore (lv' := [(4, .int v19), (0, .ref o), (1, .int x1), (2, .int x2), (3, .int x3), (5, .int x5)]) C.1 C.2.1 (dd_at td_base 40 rfl) hl (by decide) rfl (fun ls hl => ?_)
  exact w_base_b78 C fu K10 hK10 x1 x2 x3 v19 x5 st hf (lv_sub hl [1, 2, 3, 4, 0, 5] rfl) hM
theorem w_base_b10F {p : Program} {l : Launch} {e : Env} {s : State} {m : MethodId} {args : Array Value} {below : List Frame} {meth : Method} {c : Code} {D : va_G} {o : Nat} {ad : Nat → Nat} {cs : ClassId × ClassId × ClassId} {r : Int32} {st' : mm_S} (C : mm_C p s m args meth c cX12_base 6 (some .int) D cs) (fu : Nat) (K10 : Int32 → Int32 → Int32 → Int32 → Int32 → mm_S → Option (Int32 × mm_S)) (hK10 : ∀ (x1 : Int32) (x2 : Int32) (x3 : Int32) (x4 : Int32) (x5 : Int32) (st : mm_S) (H : Heap) (locs : List Loc) (ls : Array Slot), K10 x1 x2 x3 x4 x5 st = some (r, st') → lv_has ls 6 [(0, .ref o), (1, .int x1), (2, .int x2), (3, .int x3), (4, .int x4), (5, .int x5)] → mm_H D o ad cs s.heap st H locs → W p l e (mm_R 2 53) s m args below meth c H locs 0 0 (MQ below (mm_Qi D o ad cs r st') args s 0 0 (mm_A o ad)) (F0 m 10 ls [])) (x1 : Int32) (x2 : Int32) (x3 : Int32) (x4 : Int32) (x5 : Int32) (st : mm_S) (hf : M_base_b10F fu K10 x1 x2 x3 x4 x5 st = some (r, st')) {H : Heap} {locs : List Loc} {ls : Array Slot} (hl : lv_has ls 6 [(0, .ref o), (1, .int x1), (2, .int x2), (3, .int x3), (4, .int x4), (5, .int x5)]) (hM : mm_H D o ad cs s.heap st H locs) : W p l e (mm_R 2 53) s m args below meth c H locs 0 0 (MQ below (mm_Qi D o ad cs r st') args s 0 0 (mm_A o ad)) (F0 m 10 ls []) := by
  unfold M_base_b10F at hf
  refine lv_iload C.1 C.2.1 (dd_at td_base 5 rfl) (lv_at hl 5 rfl) ?_
  refine lv_aload_n C.1 C.2.1 (dd_at td_base 6 rfl) rfl (lv_at hl 0 rfl) ?_
  obtain ⟨r6, st4, hx5, hf⟩ := fc_of_bn hf
  refine mm_ci (As := []) (rest := [.int x5]) (n := 0) C hM (c_behind l D o ad cs fu st) (List.mem_of_getElem? (i := 2) rfl) (dd_at td_base 7 rfl) hx5 hl.1 hd_behind ⟨Nat.le_of_ble_eq_true rfl, Nat.le_of_ble_eq_true rfl⟩ rfl rfl (Nat.le_of_ble_eq_true rfl) ⟨Nat.le_refl 0, Nat.le_refl 0⟩ (fun H locs hM => ?_)
  refine lv_icmp_ge (tgt := 84) C.1 C.2.1 (dd_at td_base 8 rfl) (by decide) (fun c7 => ?_) (fun c7 => ?_)
  · replace hf := fc_of_t hf c7
    refine lv_iload C.1 C.2.1 (dd_at td_base 43 rfl) (lv_at hl 4 rfl) ?_
    exact mm_ri C hM (dd_at td_base 44 rfl) hf
  · replace hf := fc_of_f hf c7
    refine lv_aload_n C.1 C.2.1 (dd_at td_base 9 rfl) rfl (lv_at hl 0 rfl) ?_
    refine mm_gA C hM 15 (dd_at td_base 10 rfl) (by decide) (by decide) (by decide) ?_
    refine lv_iload C.1 C.2.1 (dd_at td_base 11 rfl) (lv_at hl 5 rfl) ?_
    obtain ⟨g8, hf⟩ := fc_of_gd hf
    refine mm_iald C hM 15 (dd_at td_base 12 rfl) (by decide) (by decide) (fc_of_ix g8) ?_
    refine lv_iconst (v := (1 : Int32)) C.1 C.2.1 (dd_at td_base 13 rfl) (by decide) ?_
    refine lv_icmp_gt (tgt := 78) C.1 C.2.1 (dd_at td_base 14 rfl) (by decide) (fun c9 => ?_) (fun c9 => ?_)
    · replace hf := fc_of_t hf c9
      exact w_base_b78 C fu K10 hK10 x1 x2 x3 x4 x5 st4 hf (lv_sub hl [0, 1, 2, 3, 4, 5] rfl) hM
    · replace hf := fc_of_f hf c9
      refine lv_aload_n C.1 C.2.1 (dd_at td_base 15 rfl) rfl (lv_at hl 0 rfl) ?_
      refine lv_iload C.1 C.2.1 (dd_at td_base 16 rfl) (lv_at hl 5 rfl) ?_
      refine lv_iload_n C.1 C.2.1 (dd_at td_base 17 rfl) rfl (lv_at hl 1 rfl) ?_
      refine lv_iload_n C.1 C.2.1 (dd_at td_base 18 rfl) rfl (lv_at hl 2 rfl) ?_
      refine lv_iload_n C.1 C.2.1 (dd_at td_base 19 rfl) rfl (lv_at hl 3 rfl) ?_
      obtain ⟨r12, st10, hx11, hf⟩ := fc_of_bn hf
      refine mm_ci (As := [.int x5, .int x1, .int x2, .int x3]) (rest := []) (n := 4) C hM (c_holds l D o ad cs fu x5 x1 x2 x3 st4) (List.mem_of_getElem? (i := 15) rfl) (dd_at td_base 20 rfl) hx11 hl.1 hd_holds ⟨Nat.le_of_ble_eq_true rfl, Nat.le_of_ble_eq_true rfl⟩ rfl rfl (Nat.le_of_ble_eq_true rfl) ⟨Nat.le_refl 0, Nat.le_refl 0⟩ (fun H locs hM => ?_)
      refine lv_if_ne (tgt := 45) C.1 C.2.1 (dd_at td_base 21 rfl) (by decide) (fun c13 => ?_) (fun c13 => ?_)
      · replace hf := fc_of_f hf c13
        refine lv_iload C.1 C.2.1 (dd_at td_base 23 rfl) (lv_at hl 4 rfl) ?_
        refine lv_aload_n C.1 C.2.1 (dd_at td_base 24 rfl) rfl (lv_at hl 0 rfl) ?_
        refine mm_gA C hM 15 (dd_at td_base 25 rfl) (by decide) (by decide) (by decide) ?_
        refine lv_iload C.1 C.2.1 (dd_at td_base 26 rfl) (lv_at hl 5 rfl) ?_
        obtain ⟨g14, hf⟩ := fc_of_gd hf
        refine mm_iald C hM 15 (dd_at td_base 27 rfl) (by decide) (by decide) (fc_of_ix g14) ?_
        refine lv_if_ne (tgt := 67) C.1 C.2.1 (dd_at td_base 28 rfl) (by decide) (fun c15 => ?_) (fun c15 => ?_)
        · replace hf := fc_of_f hf c15
          refine lv_aload_n C.1 C.2.1 (dd_at td_base 34 rfl) rfl (lv_at hl 0 rfl) ?_
          refine mm_gA C hM 16 (dd_at td_base 35 rfl) (by decide) (by decide) (by decide) ?_
          refine lv_iload C.1 C.2.1 (dd_at td_base 36 rfl) (lv_at hl 5 rfl) ?_
          obtain ⟨g16, hf⟩ := fc_of_gd hf
          refine mm_iald C hM 16 (dd_at td_base 37 rfl) (by decide) (by decide) (fc_of_ix g16) ?_
          refine lv_ineg C.1 C.2.1 (dd_at td_base 38 rfl) ?_
          exact w_base_b75 C fu K10 hK10 x1 x2 x3 x5 (-(mm_G st10 16 x5.toNatClampNeg)) x4 st10 hf (lv_sub hl [0, 1, 2, 3, 5] rfl) hM
        · replace hf := fc_of_t hf c15
          refine lv_aload_n C.1 C.2.1 (dd_at td_base 29 rfl) rfl (lv_at hl 0 rfl) ?_
          refine mm_gA C hM 16 (dd_at td_base 30 rfl) (by decide) (by decide) (by decide) ?_
          refine lv_iload C.1 C.2.1 (dd_at td_base 31 rfl) (lv_at hl 5 rfl) ?_
          obtain ⟨g17, hf⟩ := fc_of_gd hf
          refine mm_iald C hM 16 (dd_at td_base 32 rfl) (by decide) (by decide) (fc_of_ix g17) ?_
          refine lv_goto (tgt := 75) C.1 C.2.1 (dd_at td_base 33 rfl) (by decide) ?_
          exact w_base_b75 C fu K10 hK10 x1 x2 x3 x5 (mm_G st10 16 x5.toNatClampNeg) x4 st10 hf (lv_sub hl [0, 1, 2, 3, 5] rfl) hM
      · replace hf := fc_of_t hf c13
        refine lv_goto (tgt := 78) C.1 C.2.1 (dd_at td_base 22 rfl) (by decide) ?_
        exact w_base_b78 C fu K10 hK10 x1 x2 x3 x4 x5 st10 hf (lv_sub hl [0, 1, 2, 3, 4, 5] rfl) hM
theorem w_base_b10 {p : Program} {l : Launch} {e : Env} {s : State} {m : MethodId} {args : Array Value} {below : List Frame} {meth : Method} {c : Code} {D : va_G} {o : Nat} {ad : Nat → Nat} {cs : ClassId × ClassId × ClassId} {r : Int32} {st' : mm_S} (C : mm_C p s m args meth c cX12_base 6 (some .int) D cs) (fu : Nat) (n : Nat) : ∀ (x1 : Int32) (x2 : Int32) (x3 : Int32) (x4 : Int32) (x5 : Int32) (st : mm_S), M_base_b10 fu n x1 x2 x3 x4 x5 st = some (r, st') → ∀ (H : Heap) (locs : List Loc) (ls : Array Slot), lv_has ls 6 [(0, .ref o), (1, .int x1), (2, .int x2), (3, .int x3), (4, .int x4), (5, .int x5)] → mm_H D o ad cs s.heap st H locs → W p l e (mm_R 2 53) s m args below meth c H locs 0 0 (MQ below (mm_Qi D o ad cs r st') args s 0 0 (mm_A o ad)) (F0 m 10 ls []) := by
  induction n with
  | zero => exact fun _ _ _ _ _ _ hf => fc_no hf
  | succ n ih =>
    intro x1 x2 x3 x4 x5 st hf H locs ls hl hM
    exact w_base_b10F C fu (fun x1 x2 x3 x4 x5 st => M_base_b10 fu n x1 x2 x3 x4 x5 st) (fun x1 x2 x3 x4 x5 st H locs ls hf hl hM => ih x1 x2 x3 x4 x5 st hf H locs ls hl hM) x1 x2 x3 x4 x5 st hf hl hM
theorem w_base {p : Program} {l : Launch} {e : Env} {s : State} {m : MethodId} {args : Array Value} {below : List Frame} {meth : Method} {c : Code} {D : va_G} {o : Nat} {ad : Nat → Nat} {cs : ClassId × ClassId × ClassId} {r : Int32} {st' : mm_S} (C : mm_C p s m args meth c cX12_base 6 (some .int) D cs) (fu : Nat) (x1 : Int32) (x2 : Int32) (x3 : Int32) (st : mm_S) (hf : M_base fu x1 x2 x3 st = some (r, st')) {H : Heap} {locs : List Loc} {ls : Array Slot} (hl : lv_has ls 6 [(0, .ref o), (1, .int x1), (2, .int x2), (3, .int x3)]) (hM : mm_H D o ad cs s.heap st H locs) : W p l e (mm_R 2 53) s m args below meth c H locs 0 0 (MQ below (mm_Qi D o ad cs r st') args s 0 0 (mm_A o ad)) (F0 m 0 ls []) := by
  unfold M_base at hf
  refine lv_bipush (v := (10 : Int32)) C.1 C.2.1 (dd_at td_base 0 rfl) (by decide) ?_
  refine lv_istore (lv' := [(4, .int (10 : Int32)), (0, .ref o), (1, .int x1), (2, .int x2), (3, .int x3)]) C.1 C.2.1 (dd_at td_base 1 rfl) hl (by decide) rfl (fun ls hl => ?_)
  refine lv_aload_n C.1 C.2.1 (dd_at td_base 2 rfl) rfl (lv_at hl 1 rfl) ?_
  obtain ⟨r3, st1, hx2, hf⟩ := fc_of_bn hf
  refine mm_ci (As := []) (rest := []) (n := 0) C hM (c_begin l D o ad cs fu st) (List.mem_of_getElem? (i := 1) rfl) (dd_at td_base 3 rfl) hx2 hl.1 hd_begin ⟨Nat.le_of_ble_eq_true rfl, Nat.le_of_ble_eq_true rfl⟩ rfl rfl (Nat.le_of_ble_eq_true rfl) ⟨Nat.le_refl 0, Nat.le_refl 0⟩ (fun H locs hM => ?_)
  refine lv_istore (lv' := [(5, .int r3), (4, .int (10 : Int32)), (0, .ref o), (1, .int x1), (2, .int x2), (3, .int x3)]) C.1 C.2.1 (dd_at td_base 4 rfl) hl (by decide) rfl (fun ls hl => ?_)
  exact w_base_b10 C fu fu x1 x2 x3 (10 : Int32) r3 st1 hf _ _ _ (lv_sub hl [2, 3, 4, 5, 1, 0] rfl) hM
theorem c_base (l : Launch) (D : va_G) (o : Nat) (ad : Nat → Nat) (cs : ClassId × ClassId × ClassId) (fu : Nat) (x1 : Int32) (x2 : Int32) (x3 : Int32) (st : mm_S) : mm_Mi l D o ad cs yX12_base cX12_base 6 (some .int) 2 53 [.int x1, .int x2, .int x3] st (M_base fu x1 x2 x3 st) := by
  intro r st' hf
  refine mm_enter (cc := cX12_base) (nL := 6) (ret := some .int) (by decide) rfl (Nat.le_of_ble_eq_true rfl) ?_
  intro p e s m args below meth c ls C hl hM
  exact w_base C fu x1 x2 x3 st hf hl hM
end
section
/-! worthOf -/
def tb_worthOf : List (Nat × Instr × Nat) := [(0, .aload_n 0, 1), (1, .iload_n 1, 1), (2, .iload_n 2, 1), (3, .iload_n 3, 1), (4, .invokevirtual 278, 3), (7, .istore 4, 2), (9, .iload_n 2, 1), (10, .iconst 2, 1), (11, .irem, 1), (12, .iconst 1, 1), (13, .if_icmp .ne 7, 3), (16, .iconst 0, 1), (17, .goto 5, 3), (20, .iload 4, 2), (22, .istore 5, 2), (24, .iload 4, 2), (26, .istore 6, 2), (28, .aload_n 0, 1), (29, .getfield 22, 3), (32, .iload_n 1, 1), (33, .iaload, 1), (34, .tableswitch 125 1 6 #[38, 50, 57, 66, 89, 103], 38), (72, .iload 4, 2), (74, .iload_n 2, 1), (75, .bipush 8, 2), (77, .irem, 1), (78, .iadd, 1), (79, .istore 6, 2), (81, .goto 78, 3), (84, .iload 5, 2), (86, .istore 6, 2), (88, .goto 71, 3), (91, .iload 4, 2), (93, .iconst 2, 1), (94, .idiv, 1), (95, .istore 6, 2), (97, .goto 62, 3), (100, .iload 4, 2), (102, .iload_n 2, 1), (103, .bipush 8, 2), (105, .irem, 1), (106, .iadd, 1), (107, .iload_n 3, 1), (108, .iconst 1, 1), (109, .if_icmp .ne 7, 3), (112, .iconst 2, 1), (113, .goto 4, 3), (116, .iconst 1, 1), (117, .imul, 1), (118, .istore 6, 2), (120, .goto 39, 3), (123, .iload 5, 2), (125, .aload_n 0, 1), (126, .getfield 26, 3), (129, .iload_n 1, 1), (130, .iaload, 1), (131, .iadd, 1), (132, .istore 6, 2), (134, .goto 25, 3), (137, .iload 4, 2), (139, .iconst 2, 1), (140, .idiv, 1), (141, .aload_n 0, 1), (142, .getfield 32, 3), (145, .iconst 4, 1), (146, .iload_n 1, 1), (147, .imul, 1), (148, .iload_n 2, 1), (149, .iconst 4, 1), (150, .irem, 1), (151, .iadd, 1), (152, .iaload, 1), (153, .iadd, 1), (154, .istore 6, 2), (156, .goto 3, 3), (159, .iload 6, 2), (161, .ifCond .ge 7, 3), (164, .iconst 0, 1), (165, .goto 5, 3), (168, .iload 6, 2), (170, .ireturn, 1)]
theorem td_worthOf : tb_worthOf.all (fun q => decide (decode cX12_worthOf q.1 = .ok (q.2.1, q.2.2))) = true := by decide +kernel
theorem hd_worthOf : yX12_worthOf.cls = RX12 ∧ yX12_worthOf.cls ≠ "java/lang/invoke/MethodHandle" ∧ yX12_worthOf.cls ≠ "java/lang/invoke/VarHandle" ∧ (parseMethodDescriptor yX12_worthOf.desc).map (fun d => d.parameters.length) = some 3 := by decide +kernel
theorem w_worthOf_b159 {p : Program} {l : Launch} {e : Env} {s : State} {m : MethodId} {args : Array Value} {below : List Frame} {meth : Method} {c : Code} {D : va_G} {o : Nat} {ad : Nat → Nat} {cs : ClassId × ClassId × ClassId} {r : Int32} {st' : mm_S} (C : mm_C p s m args meth c cX12_worthOf 7 (some .int) D cs) (fu : Nat) (x6 : Int32) (st : mm_S) (hf : M_worthOf_b159 fu x6 st = some (r, st')) {H : Heap} {locs : List Loc} {ls : Array Slot} (hl : lv_has ls 7 [(0, .ref o), (6, .int x6)]) (hM : mm_H D o ad cs s.heap st H locs) : W p l e (mm_R 3 78) s m args below meth c H locs 0 0 (MQ below (mm_Qi D o ad cs r st') args s 0 0 (mm_A o ad)) (F0 m 159 ls []) := by
  unfold M_worthOf_b159 at hf
  refine lv_iload C.1 C.2.1 (dd_at td_worthOf 75 rfl) (lv_at hl 1 rfl) ?_
  refine lv_if_ge (tgt := 168) C.1 C.2.1 (dd_at td_worthOf 76 rfl) (by decide) (fun c20 => ?_) (fun c20 => ?_)
  · replace hf := fc_of_t hf c20
    refine lv_iload C.1 C.2.1 (dd_at td_worthOf 79 rfl) (lv_at hl 1 rfl) ?_
    exact mm_ri C hM (dd_at td_worthOf 80 rfl) hf
  · replace hf := fc_of_f hf c20
    refine lv_iconst (v := (0 : Int32)) C.1 C.2.1 (dd_at td_worthOf 77 rfl) (by decide) ?_
    refine lv_goto (tgt := 170) C.1 C.2.1 (dd_at td_worthOf 78 rfl) (by decide) ?_
    exact mm_ri C hM (dd_at td_worthOf 80 rfl) hf
theorem w_worthOf_b117 {p : Program} {l : Launch} {e : Env} {s : State} {m : MethodId} {args : Array Value} {below : List Frame} {meth : Method} {c : Code} {D : va_G} {o : Nat} {ad : Nat → Nat} {cs : ClassId × ClassId × ClassId} {r : Int32} {st' : mm_S} (C : mm_C p s m args meth c cX12_worthOf 7 (some .int) D cs) (fu : Nat) (s0 : Int32) (s1 : Int32) (st : mm_S) (hf : M_worthOf_b117 fu s0 s1 st = some (r, st')) {H : Heap} {locs : List Loc} {ls : Array Slot} (hl : lv_has ls 7 [(0, .ref o)]) (hM : mm_H D o ad cs s.heap st H locs) : W p l e (mm_R 3 78) s m args below meth c H locs 0 0 (MQ below (mm_Qi D o ad cs r st') args s 0 0 (mm_A o ad)) (F0 m 117 ls [.int s0, .int s1]) := by
  unfold M_worthOf_b117 at hf
  refine lv_imul C.1 C.2.1 (dd_at td_worthOf 48 rfl) ?_
  refine lv_topi (fun v21 ev21 => ?_)
  replace hf := fc_of_nm hf v21 ev21
  refine lv_istore (lv' := [(6, .int v21), (0, .ref o)]) C.1 C.2.1 (dd_at td_worthOf 49 rfl) hl (by decide) rfl (fun ls hl => ?_)
  refine lv_goto (tgt := 159) C.1 C.2.1 (dd_at td_worthOf 50 rfl) (by decide) ?_
  exact w_worthOf_b159 C fu v21 st hf (lv_sub hl [1, 0] rfl) hM
theorem w_worthOf_b22 {p : Program} {l : Launch} {e : Env} {s : State} {m : MethodId} {args : Array Value} {below : List Frame} {meth : Method} {c : Code} {D : va_G} {o : Nat} {ad : Nat → Nat} {cs : ClassId × ClassId × ClassId} {r : Int32} {st' : mm_S} (C : mm_C p s m args meth c cX12_worthOf 7 (some .int) D cs) (fu : Nat) (x1 : Int32) (x2 : Int32) (x3 : Int32) (x4 : Int32) (s0 : Int32) (st : mm_S) (hf : M_worthOf_b22 fu x1 x2 x3 x4 s0 st = some (r, st')) {H : Heap} {locs : List Loc} {ls : Array Slot} (hl : lv_has ls 7 [(0, .ref o), (1, .int x1), (2, .int x2), (3, .int x3), (4, .int x4)]) (hM : mm_H D o ad cs s.heap st H locs) : W p l e (mm_R 3 78) s m args below meth c H locs 0 0 (MQ below (mm_Qi D o ad cs r st') args s 0 0 (mm_A o ad)) (F0 m 22 ls [.int s0]) := by
  unfold M_worthOf_b22 at hf
  refine lv_istore (lv' := [(5, .int s0), (0, .ref o), (1, .int x1), (2, .int x2), (3, .int x3), (4, .int x4)]) C.1 C.2.1 (dd_at td_worthOf 14 rfl) hl (by decide) rfl (fun ls hl => ?_)
  refine lv_iload C.1 C.2.1 (dd_at td_worthOf 15 rfl) (lv_at hl 5 rfl) ?_
  refine lv_istore (lv' := [(6, .int x4), (5, .int s0), (0, .ref o), (1, .int x1), (2, .int x2), (3, .int x3), (4, .int x4)]) C.1 C.2.1 (dd_at td_worthOf 16 rfl) hl (by decide) rfl (fun ls hl => ?_)
  refine lv_aload_n C.1 C.2.1 (dd_at td_worthOf 17 rfl) rfl (lv_at hl 2 rfl) ?_
  refine mm_gA C hM 4 (dd_at td_worthOf 18 rfl) (by decide) (by decide) (by decide) ?_
  refine lv_iload_n C.1 C.2.1 (dd_at td_worthOf 19 rfl) rfl (lv_at hl 3 rfl) ?_
  obtain ⟨g5, hf⟩ := fc_of_gd hf
  refine mm_iald C hM 4 (dd_at td_worthOf 20 rfl) (by decide) (by decide) (fc_of_ix g5) ?_
  refine lv_topi (fun v6 ev6 => ?_)
  replace hf := fc_of_nm hf v6 ev6
  by_cases c7 : v6 = (1 : Int32)
  · replace hf := fc_of_t hf c7
    refine lv_tableIn (off := 38) (tgt := 72) C.1 C.2.1 (dd_at td_worthOf 21 rfl) (by rw [c7]; decide) (by rw [c7]; decide) (by rw [c7]; decide) (by decide) ?_
    refine lv_iload C.1 C.2.1 (dd_at td_worthOf 22 rfl) (lv_at hl 6 rfl) ?_
    refine lv_iload_n C.1 C.2.1 (dd_at td_worthOf 23 rfl) rfl (lv_at hl 4 rfl) ?_
    refine lv_bipush (v := (8 : Int32)) C.1 C.2.1 (dd_at td_worthOf 24 rfl) (by decide) ?_
    refine lv_irem C.1 C.2.1 (dd_at td_worthOf 25 rfl) (by decide) ?_
    refine lv_iadd C.1 C.2.1 (dd_at td_worthOf 26 rfl) ?_
    refine lv_topi (fun v8 ev8 => ?_)
    replace hf := fc_of_nm hf v8 ev8
    refine lv_istore (lv' := [(6, .int v8), (5, .int s0), (0, .ref o), (1, .int x1), (2, .int x2), (3, .int x3), (4, .int x4)]) C.1 C.2.1 (dd_at td_worthOf 27 rfl) hl (by decide) rfl (fun ls hl => ?_)
    refine lv_goto (tgt := 159) C.1 C.2.1 (dd_at td_worthOf 28 rfl) (by decide) ?_
    exact w_worthOf_b159 C fu v8 st hf (lv_sub hl [2, 0] rfl) hM
  · replace hf := fc_of_f hf c7
    by_cases c9 : v6 = (2 : Int32)
    · replace hf := fc_of_t hf c9
      refine lv_tableIn (off := 50) (tgt := 84) C.1 C.2.1 (dd_at td_worthOf 21 rfl) (by rw [c9]; decide) (by rw [c9]; decide) (by rw [c9]; decide) (by decide) ?_
      refine lv_iload C.1 C.2.1 (dd_at td_worthOf 29 rfl) (lv_at hl 1 rfl) ?_
      refine lv_istore (lv' := [(6, .int s0), (5, .int s0), (0, .ref o), (1, .int x1), (2, .int x2), (3, .int x3), (4, .int x4)]) C.1 C.2.1 (dd_at td_worthOf 30 rfl) hl (by decide) rfl (fun ls hl => ?_)
      refine lv_goto (tgt := 159) C.1 C.2.1 (dd_at td_worthOf 31 rfl) (by decide) ?_
      exact w_worthOf_b159 C fu s0 st hf (lv_sub hl [2, 0] rfl) hM
    · replace hf := fc_of_f hf c9
      by_cases c10 : v6 = (3 : Int32)
      · replace hf := fc_of_t hf c10
        refine lv_tableIn (off := 57) (tgt := 91) C.1 C.2.1 (dd_at td_worthOf 21 rfl) (by rw [c10]; decide) (by rw [c10]; decide) (by rw [c10]; decide) (by decide) ?_
        refine lv_iload C.1 C.2.1 (dd_at td_worthOf 32 rfl) (lv_at hl 6 rfl) ?_
        refine lv_iconst (v := (2 : Int32)) C.1 C.2.1 (dd_at td_worthOf 33 rfl) (by decide) ?_
        refine lv_idiv C.1 C.2.1 (dd_at td_worthOf 34 rfl) (by decide) ?_
        refine lv_topi (fun v11 ev11 => ?_)
        replace hf := fc_of_nm hf v11 ev11
        refine lv_istore (lv' := [(6, .int v11), (5, .int s0), (0, .ref o), (1, .int x1), (2, .int x2), (3, .int x3), (4, .int x4)]) C.1 C.2.1 (dd_at td_worthOf 35 rfl) hl (by decide) rfl (fun ls hl => ?_)
        refine lv_goto (tgt := 159) C.1 C.2.1 (dd_at td_worthOf 36 rfl) (by decide) ?_
        exact w_worthOf_b159 C fu v11 st hf (lv_sub hl [2, 0] rfl) hM
      · replace hf := fc_of_f hf c10
        by_cases c12 : v6 = (4 : Int32)
        · replace hf := fc_of_t hf c12
          refine lv_tableIn (off := 66) (tgt := 100) C.1 C.2.1 (dd_at td_worthOf 21 rfl) (by rw [c12]; decide) (by rw [c12]; decide) (by rw [c12]; decide) (by decide) ?_
          refine lv_iload C.1 C.2.1 (dd_at td_worthOf 37 rfl) (lv_at hl 6 rfl) ?_
          refine lv_iload_n C.1 C.2.1 (dd_at td_worthOf 38 rfl) rfl (lv_at hl 4 rfl) ?_
          refine lv_bipush (v := (8 : Int32)) C.1 C.2.1 (dd_at td_worthOf 39 rfl) (by decide) ?_
          refine lv_irem C.1 C.2.1 (dd_at td_worthOf 40 rfl) (by decide) ?_
          refine lv_iadd C.1 C.2.1 (dd_at td_worthOf 41 rfl) ?_
          refine lv_iload_n C.1 C.2.1 (dd_at td_worthOf 42 rfl) rfl (lv_at hl 5 rfl) ?_
          refine lv_iconst (v := (1 : Int32)) C.1 C.2.1 (dd_at td_worthOf 43 rfl) (by decide) ?_
          refine lv_icmp_ne (tgt := 116) C.1 C.2.1 (dd_at td_worthOf 44 rfl) (by decide) (fun c13 => ?_) (fun c13 => ?_)
          · replace hf := fc_of_f hf c13
            refine lv_iconst (v := (1 : Int32)) C.1 C.2.1 (dd_at td_worthOf 47 rfl) (by decide) ?_
            exact w_worthOf_b117 C fu (1 : Int32) (x4 + (x2 - x2 / (8 : Int32) * (8 : Int32))) st hf (lv_sub hl [2] rfl) hM
          · replace hf := fc_of_t hf c13
            refine lv_iconst (v := (2 : Int32)) C.1 C.2.1 (dd_at td_worthOf 45 rfl) (by decide) ?_
            refine lv_goto (tgt := 117) C.1 C.2.1 (dd_at td_worthOf 46 rfl) (by decide) ?_
            exact w_worthOf_b117 C fu (2 : Int32) (x4 + (x2 - x2 / (8 : Int32) * (8 : Int32))) st hf (lv_sub hl [2] rfl) hM
        · replace hf := fc_of_f hf c12
          by_cases c14 : v6 = (5 : Int32)
          · replace hf := fc_of_t hf c14
            refine lv_tableIn (off := 89) (tgt := 123) C.1 C.2.1 (dd_at td_worthOf 21 rfl) (by rw [c14]; decide) (by rw [c14]; decide) (by rw [c14]; decide) (by decide) ?_
            refine lv_iload C.1 C.2.1 (dd_at td_worthOf 51 rfl) (lv_at hl 1 rfl) ?_
            refine lv_aload_n C.1 C.2.1 (dd_at td_worthOf 52 rfl) rfl (lv_at hl 2 rfl) ?_
            refine mm_gA C hM 5 (dd_at td_worthOf 53 rfl) (by decide) (by decide) (by decide) ?_
            refine lv_iload_n C.1 C.2.1 (dd_at td_worthOf 54 rfl) rfl (lv_at hl 3 rfl) ?_
            obtain ⟨g15, hf⟩ := fc_of_gd hf
            refine mm_iald C hM 5 (dd_at td_worthOf 55 rfl) (by decide) (by decide) (fc_of_ix g15) ?_
            refine lv_iadd C.1 C.2.1 (dd_at td_worthOf 56 rfl) ?_
            refine lv_topi (fun v16 ev16 => ?_)
            replace hf := fc_of_nm hf v16 ev16
            refine lv_istore (lv' := [(6, .int v16), (5, .int s0), (0, .ref o), (1, .int x1), (2, .int x2), (3, .int x3), (4, .int x4)]) C.1 C.2.1 (dd_at td_worthOf 57 rfl) hl (by decide) rfl (fun ls hl => ?_)
            refine lv_goto (tgt := 159) C.1 C.2.1 (dd_at td_worthOf 58 rfl) (by decide) ?_
            exact w_worthOf_b159 C fu v16 st hf (lv_sub hl [2, 0] rfl) hM
          · replace hf := fc_of_f hf c14
            by_cases c17 : v6 = (6 : Int32)
            · replace hf := fc_of_t hf c17
              refine lv_tableIn (off := 103) (tgt := 137) C.1 C.2.1 (dd_at td_worthOf 21 rfl) (by rw [c17]; decide) (by rw [c17]; decide) (by rw [c17]; decide) (by decide) ?_
              refine lv_iload C.1 C.2.1 (dd_at td_worthOf 59 rfl) (lv_at hl 6 rfl) ?_
              refine lv_iconst (v := (2 : Int32)) C.1 C.2.1 (dd_at td_worthOf 60 rfl) (by decide) ?_
              refine lv_idiv C.1 C.2.1 (dd_at td_worthOf 61 rfl) (by decide) ?_
              refine lv_aload_n C.1 C.2.1 (dd_at td_worthOf 62 rfl) rfl (lv_at hl 2 rfl) ?_
              refine mm_gA C hM 7 (dd_at td_worthOf 63 rfl) (by decide) (by decide) (by decide) ?_
              refine lv_iconst (v := (4 : Int32)) C.1 C.2.1 (dd_at td_worthOf 64 rfl) (by decide) ?_
              refine lv_iload_n C.1 C.2.1 (dd_at td_worthOf 65 rfl) rfl (lv_at hl 3 rfl) ?_
              refine lv_imul C.1 C.2.1 (dd_at td_worthOf 66 rfl) ?_
              refine lv_iload_n C.1 C.2.1 (dd_at td_worthOf 67 rfl) rfl (lv_at hl 4 rfl) ?_
              refine lv_iconst (v := (4 : Int32)) C.1 C.2.1 (dd_at td_worthOf 68 rfl) (by decide) ?_
              refine lv_irem C.1 C.2.1 (dd_at td_worthOf 69 rfl) (by decide) ?_
              refine lv_iadd C.1 C.2.1 (dd_at td_worthOf 70 rfl) ?_
              obtain ⟨g18, hf⟩ := fc_of_gd hf
              refine mm_iald C hM 7 (dd_at td_worthOf 71 rfl) (by decide) (by decide) (fc_of_ix g18) ?_
              refine lv_iadd C.1 C.2.1 (dd_at td_worthOf 72 rfl) ?_
              refine lv_topi (fun v19 ev19 => ?_)
              replace hf := fc_of_nm hf v19 ev19
              refine lv_istore (lv' := [(6, .int v19), (5, .int s0), (0, .ref o), (1, .int x1), (2, .int x2), (3, .int x3), (4, .int x4)]) C.1 C.2.1 (dd_at td_worthOf 73 rfl) hl (by decide) rfl (fun ls hl => ?_)
              refine lv_goto (tgt := 159) C.1 C.2.1 (dd_at td_worthOf 74 rfl) (by decide) ?_
              exact w_worthOf_b159 C fu v19 st hf (lv_sub hl [2, 0] rfl) hM
            · replace hf := fc_of_f hf c17
              refine lv_tableOut (tgt := 159) C.1 C.2.1 (dd_at td_worthOf 21 rfl) (by have q0 := lv_neT c7 (a := 1) (by decide); have q1 := lv_neT c9 (a := 2) (by decide); have q2 := lv_neT c10 (a := 3) (by decide); have q3 := lv_neT c12 (a := 4) (by decide); have q4 := lv_neT c14 (a := 5) (by decide); have q5 := lv_neT c17 (a := 6) (by decide); omega) (by decide) ?_
              exact w_worthOf_b159 C fu x4 st hf (lv_sub hl [2, 0] rfl) hM
theorem w_worthOf {p : Program} {l : Launch} {e : Env} {s : State} {m : MethodId} {args : Array Value} {below : List Frame} {meth : Method} {c : Code} {D : va_G} {o : Nat} {ad : Nat → Nat} {cs : ClassId × ClassId × ClassId} {r : Int32} {st' : mm_S} (C : mm_C p s m args meth c cX12_worthOf 7 (some .int) D cs) (fu : Nat) (x1 : Int32) (x2 : Int32) (x3 : Int32) (st : mm_S) (hf : M_worthOf fu x1 x2 x3 st = some (r, st')) {H : Heap} {locs : List Loc} {ls : Array Slot} (hl : lv_has ls 7 [(0, .ref o), (1, .int x1), (2, .int x2), (3, .int x3)]) (hM : mm_H D o ad cs s.heap st H locs) : W p l e (mm_R 3 78) s m args below meth c H locs 0 0 (MQ below (mm_Qi D o ad cs r st') args s 0 0 (mm_A o ad)) (F0 m 0 ls []) := by
  unfold M_worthOf at hf
  refine lv_aload_n C.1 C.2.1 (dd_at td_worthOf 0 rfl) rfl (lv_at hl 0 rfl) ?_
  refine lv_iload_n C.1 C.2.1 (dd_at td_worthOf 1 rfl) rfl (lv_at hl 1 rfl) ?_
  refine lv_iload_n C.1 C.2.1 (dd_at td_worthOf 2 rfl) rfl (lv_at hl 2 rfl) ?_
  refine lv_iload_n C.1 C.2.1 (dd_at td_worthOf 3 rfl) rfl (lv_at hl 3 rfl) ?_
  obtain ⟨r3, st1, hx2, hf⟩ := fc_of_bn hf
  refine mm_ci (As := [.int x1, .int x2, .int x3]) (rest := []) (n := 3) C hM (c_base l D o ad cs fu x1 x2 x3 st) (List.mem_of_getElem? (i := 0) rfl) (dd_at td_worthOf 4 rfl) hx2 hl.1 hd_base ⟨Nat.le_of_ble_eq_true rfl, Nat.le_of_ble_eq_true rfl⟩ rfl rfl (Nat.le_of_ble_eq_true rfl) ⟨Nat.le_refl 0, Nat.le_refl 0⟩ (fun H locs hM => ?_)
  refine lv_istore (lv' := [(4, .int r3), (0, .ref o), (1, .int x1), (2, .int x2), (3, .int x3)]) C.1 C.2.1 (dd_at td_worthOf 5 rfl) hl (by decide) rfl (fun ls hl => ?_)
  refine lv_iload_n C.1 C.2.1 (dd_at td_worthOf 6 rfl) rfl (lv_at hl 3 rfl) ?_
  refine lv_iconst (v := (2 : Int32)) C.1 C.2.1 (dd_at td_worthOf 7 rfl) (by decide) ?_
  refine lv_irem C.1 C.2.1 (dd_at td_worthOf 8 rfl) (by decide) ?_
  refine lv_iconst (v := (1 : Int32)) C.1 C.2.1 (dd_at td_worthOf 9 rfl) (by decide) ?_
  refine lv_icmp_ne (tgt := 20) C.1 C.2.1 (dd_at td_worthOf 10 rfl) (by decide) (fun c4 => ?_) (fun c4 => ?_)
  · replace hf := fc_of_f hf c4
    refine lv_iload C.1 C.2.1 (dd_at td_worthOf 13 rfl) (lv_at hl 0 rfl) ?_
    exact w_worthOf_b22 C fu x1 x2 x3 r3 r3 st1 hf (lv_sub hl [1, 2, 3, 4, 0] rfl) hM
  · replace hf := fc_of_t hf c4
    refine lv_iconst (v := (0 : Int32)) C.1 C.2.1 (dd_at td_worthOf 11 rfl) (by decide) ?_
    refine lv_goto (tgt := 22) C.1 C.2.1 (dd_at td_worthOf 12 rfl) (by decide) ?_
    exact w_worthOf_b22 C fu x1 x2 x3 r3 (0 : Int32) st1 hf (lv_sub hl [1, 2, 3, 4, 0] rfl) hM
theorem c_worthOf (l : Launch) (D : va_G) (o : Nat) (ad : Nat → Nat) (cs : ClassId × ClassId × ClassId) (fu : Nat) (x1 : Int32) (x2 : Int32) (x3 : Int32) (st : mm_S) : mm_Mi l D o ad cs yX12_worthOf cX12_worthOf 7 (some .int) 3 78 [.int x1, .int x2, .int x3] st (M_worthOf fu x1 x2 x3 st) := by
  intro r st' hf
  refine mm_enter (cc := cX12_worthOf) (nL := 7) (ret := some .int) (by decide) rfl (Nat.le_of_ble_eq_true rfl) ?_
  intro p e s m args below meth c ls C hl hM
  exact w_worthOf C fu x1 x2 x3 st hf hl hM

/-! of -/
def tb_of : List (Nat × Instr × Nat) := [(0, .aload_n 0, 1), (1, .iload_n 1, 1), (2, .invokevirtual 215, 3), (5, .ifCond .ne 5, 3), (8, .iconst (-1), 1), (9, .ireturn, 1), (10, .iload_n 2, 1), (11, .tableswitch 64 0 3 #[29, 36, 43, 50], 29), (40, .aload_n 0, 1), (41, .getfield 22, 3), (44, .iload_n 1, 1), (45, .iaload, 1), (46, .ireturn, 1), (47, .aload_n 0, 1), (48, .getfield 26, 3), (51, .iload_n 1, 1), (52, .iaload, 1), (53, .ireturn, 1), (54, .aload_n 0, 1), (55, .getfield 29, 3), (58, .iload_n 1, 1), (59, .iaload, 1), (60, .ireturn, 1), (61, .aload_n 0, 1), (62, .iload_n 1, 1), (63, .aload_n 0, 1), (64, .getfield 19, 3), (67, .aload_n 0, 1), (68, .getfield 13, 3), (71, .invokevirtual 282, 3), (74, .ireturn, 1), (75, .iconst (-1), 1), (76, .ireturn, 1)]
theorem td_of : tb_of.all (fun q => decide (decode cX12_of q.1 = .ok (q.2.1, q.2.2))) = true := by decide +kernel
theorem w_of {p : Program} {l : Launch} {e : Env} {s : State} {m : MethodId} {args : Array Value} {below : List Frame} {meth : Method} {c : Code} {D : va_G} {o : Nat} {ad : Nat → Nat} {cs : ClassId × ClassId × ClassId} {r : Int32} {st' : mm_S} (C : mm_C p s m args meth c cX12_of 3 (some .int) D cs) (fu : Nat) (x1 : Int32) (x2 : Int32) (st : mm_S) (hf : M_of fu x1 x2 st = some (r, st')) {H : Heap} {locs : List Loc} {ls : Array Slot} (hl : lv_has ls 3 [(0, .ref o), (1, .int x1), (2, .int x2)]) (hM : mm_H D o ad cs s.heap st H locs) : W p l e (mm_R 4 104) s m args below meth c H locs 0 0 (MQ below (mm_Qi D o ad cs r st') args s 0 0 (mm_A o ad)) (F0 m 0 ls []) := by
  unfold M_of at hf
  refine lv_aload_n C.1 C.2.1 (dd_at td_of 0 rfl) rfl (lv_at hl 0 rfl) ?_
  refine lv_iload_n C.1 C.2.1 (dd_at td_of 1 rfl) rfl (lv_at hl 1 rfl) ?_
  obtain ⟨r3, st1, hx2, hf⟩ := fc_of_bn hf
  refine mm_ci (As := [.int x1]) (rest := []) (n := 1) C hM (c_isNeed l D o ad cs fu x1 st) (List.mem_of_getElem? (i := 22) rfl) (dd_at td_of 2 rfl) hx2 hl.1 hd_isNeed ⟨Nat.le_of_ble_eq_true rfl, Nat.le_of_ble_eq_true rfl⟩ rfl rfl (Nat.le_of_ble_eq_true rfl) ⟨Nat.le_refl 0, Nat.le_refl 0⟩ (fun H locs hM => ?_)
  refine lv_if_ne (tgt := 10) C.1 C.2.1 (dd_at td_of 3 rfl) (by decide) (fun c4 => ?_) (fun c4 => ?_)
  · replace hf := fc_of_f hf c4
    refine lv_iload_n C.1 C.2.1 (dd_at td_of 6 rfl) rfl (lv_at hl 2 rfl) ?_
    by_cases c5 : x2 = (0 : Int32)
    · replace hf := fc_of_t hf c5
      refine lv_tableIn (off := 29) (tgt := 40) C.1 C.2.1 (dd_at td_of 7 rfl) (by rw [c5]; decide) (by rw [c5]; decide) (by rw [c5]; decide) (by decide) ?_
      refine lv_aload_n C.1 C.2.1 (dd_at td_of 8 rfl) rfl (lv_at hl 0 rfl) ?_
      refine mm_gA C hM 4 (dd_at td_of 9 rfl) (by decide) (by decide) (by decide) ?_
      refine lv_iload_n C.1 C.2.1 (dd_at td_of 10 rfl) rfl (lv_at hl 1 rfl) ?_
      obtain ⟨g6, hf⟩ := fc_of_gd hf
      refine mm_iald C hM 4 (dd_at td_of 11 rfl) (by decide) (by decide) (fc_of_ix g6) ?_
      exact mm_ri C hM (dd_at td_of 12 rfl) hf
    · replace hf := fc_of_f hf c5
      by_cases c7 : x2 = (1 : Int32)
      · replace hf := fc_of_t hf c7
        refine lv_tableIn (off := 36) (tgt := 47) C.1 C.2.1 (dd_at td_of 7 rfl) (by rw [c7]; decide) (by rw [c7]; decide) (by rw [c7]; decide) (by decide) ?_
        refine lv_aload_n C.1 C.2.1 (dd_at td_of 13 rfl) rfl (lv_at hl 0 rfl) ?_
        refine mm_gA C hM 5 (dd_at td_of 14 rfl) (by decide) (by decide) (by decide) ?_
        refine lv_iload_n C.1 C.2.1 (dd_at td_of 15 rfl) rfl (lv_at hl 1 rfl) ?_
        obtain ⟨g8, hf⟩ := fc_of_gd hf
        refine mm_iald C hM 5 (dd_at td_of 16 rfl) (by decide) (by decide) (fc_of_ix g8) ?_
        exact mm_ri C hM (dd_at td_of 17 rfl) hf
      · replace hf := fc_of_f hf c7
        by_cases c9 : x2 = (2 : Int32)
        · replace hf := fc_of_t hf c9
          refine lv_tableIn (off := 43) (tgt := 54) C.1 C.2.1 (dd_at td_of 7 rfl) (by rw [c9]; decide) (by rw [c9]; decide) (by rw [c9]; decide) (by decide) ?_
          refine lv_aload_n C.1 C.2.1 (dd_at td_of 18 rfl) rfl (lv_at hl 0 rfl) ?_
          refine mm_gA C hM 6 (dd_at td_of 19 rfl) (by decide) (by decide) (by decide) ?_
          refine lv_iload_n C.1 C.2.1 (dd_at td_of 20 rfl) rfl (lv_at hl 1 rfl) ?_
          obtain ⟨g10, hf⟩ := fc_of_gd hf
          refine mm_iald C hM 6 (dd_at td_of 21 rfl) (by decide) (by decide) (fc_of_ix g10) ?_
          exact mm_ri C hM (dd_at td_of 22 rfl) hf
        · replace hf := fc_of_f hf c9
          by_cases c11 : x2 = (3 : Int32)
          · replace hf := fc_of_t hf c11
            refine lv_tableIn (off := 50) (tgt := 61) C.1 C.2.1 (dd_at td_of 7 rfl) (by rw [c11]; decide) (by rw [c11]; decide) (by rw [c11]; decide) (by decide) ?_
            refine lv_aload_n C.1 C.2.1 (dd_at td_of 23 rfl) rfl (lv_at hl 0 rfl) ?_
            refine lv_iload_n C.1 C.2.1 (dd_at td_of 24 rfl) rfl (lv_at hl 1 rfl) ?_
            refine lv_aload_n C.1 C.2.1 (dd_at td_of 25 rfl) rfl (lv_at hl 0 rfl) ?_
            refine mm_gI C hM 3 (dd_at td_of 26 rfl) (by decide) (by decide) (by decide) ?_
            refine lv_aload_n C.1 C.2.1 (dd_at td_of 27 rfl) rfl (lv_at hl 0 rfl) ?_
            refine mm_gI C hM 1 (dd_at td_of 28 rfl) (by decide) (by decide) (by decide) ?_
            obtain ⟨r14, st12, hx13, hf⟩ := fc_of_bn hf
            refine mm_ci (As := [.int x1, .int (mm_I st1 3), .int (mm_I st1 1)]) (rest := []) (n := 3) C hM (c_worthOf l D o ad cs fu x1 (mm_I st1 3) (mm_I st1 1) st1) (List.mem_of_getElem? (i := 48) rfl) (dd_at td_of 29 rfl) hx13 hl.1 hd_worthOf ⟨Nat.le_of_ble_eq_true rfl, Nat.le_of_ble_eq_true rfl⟩ rfl rfl (Nat.le_of_ble_eq_true rfl) ⟨Nat.le_refl 0, Nat.le_refl 0⟩ (fun H locs hM => ?_)
            exact mm_ri C hM (dd_at td_of 30 rfl) hf
          · replace hf := fc_of_f hf c11
            refine lv_tableOut (tgt := 75) C.1 C.2.1 (dd_at td_of 7 rfl) (by have q0 := lv_neT c5 (a := 0) (by decide); have q1 := lv_neT c7 (a := 1) (by decide); have q2 := lv_neT c9 (a := 2) (by decide); have q3 := lv_neT c11 (a := 3) (by decide); omega) (by decide) ?_
            refine lv_iconst (v := (-1 : Int32)) C.1 C.2.1 (dd_at td_of 31 rfl) (by decide) ?_
            exact mm_ri C hM (dd_at td_of 32 rfl) hf
  · replace hf := fc_of_t hf c4
    refine lv_iconst (v := (-1 : Int32)) C.1 C.2.1 (dd_at td_of 4 rfl) (by decide) ?_
    exact mm_ri C hM (dd_at td_of 5 rfl) hf
theorem c_of (l : Launch) (D : va_G) (o : Nat) (ad : Nat → Nat) (cs : ClassId × ClassId × ClassId) (fu : Nat) (x1 : Int32) (x2 : Int32) (st : mm_S) : mm_Mi l D o ad cs yX12_of cX12_of 3 (some .int) 4 104 [.int x1, .int x2] st (M_of fu x1 x2 st) := by
  intro r st' hf
  refine mm_enter (cc := cX12_of) (nL := 3) (ret := some .int) (by decide) rfl (Nat.le_of_ble_eq_true rfl) ?_
  intro p e s m args below meth c ls C hl hM
  exact w_of C fu x1 x2 st hf hl hM

/-! worth -/
def tb_worth : List (Nat × Instr × Nat) := [(0, .aload_n 0, 1), (1, .iload_n 1, 1), (2, .invokevirtual 215, 3), (5, .ifCond .ne 5, 3), (8, .iconst (-1), 1), (9, .ireturn, 1), (10, .aload_n 0, 1), (11, .iload_n 2, 1), (12, .iconst 0, 1), (13, .bipush 60, 2), (15, .invokevirtual 207, 3), (18, .ifCond .eq 26, 3), (21, .aload_n 0, 1), (22, .iload_n 3, 1), (23, .invokevirtual 211, 3), (26, .ifCond .eq 18, 3), (29, .aload_n 0, 1), (30, .iload_n 1, 1), (31, .aload_n 0, 1), (32, .getfield 19, 3), (35, .iload_n 2, 1), (36, .iadd, 1), (37, .iload_n 3, 1), (38, .invokevirtual 282, 3), (41, .goto 5, 3), (44, .bipush (-2), 2), (46, .ireturn, 1)]
theorem td_worth : tb_worth.all (fun q => decide (decode cX12_worth q.1 = .ok (q.2.1, q.2.2))) = true := by decide +kernel
theorem w_worth {p : Program} {l : Launch} {e : Env} {s : State} {m : MethodId} {args : Array Value} {below : List Frame} {meth : Method} {c : Code} {D : va_G} {o : Nat} {ad : Nat → Nat} {cs : ClassId × ClassId × ClassId} {r : Int32} {st' : mm_S} (C : mm_C p s m args meth c cX12_worth 4 (some .int) D cs) (fu : Nat) (x1 : Int32) (x2 : Int32) (x3 : Int32) (st : mm_S) (hf : M_worth fu x1 x2 x3 st = some (r, st')) {H : Heap} {locs : List Loc} {ls : Array Slot} (hl : lv_has ls 4 [(0, .ref o), (1, .int x1), (2, .int x2), (3, .int x3)]) (hM : mm_H D o ad cs s.heap st H locs) : W p l e (mm_R 4 104) s m args below meth c H locs 0 0 (MQ below (mm_Qi D o ad cs r st') args s 0 0 (mm_A o ad)) (F0 m 0 ls []) := by
  unfold M_worth at hf
  refine lv_aload_n C.1 C.2.1 (dd_at td_worth 0 rfl) rfl (lv_at hl 0 rfl) ?_
  refine lv_iload_n C.1 C.2.1 (dd_at td_worth 1 rfl) rfl (lv_at hl 1 rfl) ?_
  obtain ⟨r3, st1, hx2, hf⟩ := fc_of_bn hf
  refine mm_ci (As := [.int x1]) (rest := []) (n := 1) C hM (c_isNeed l D o ad cs fu x1 st) (List.mem_of_getElem? (i := 22) rfl) (dd_at td_worth 2 rfl) hx2 hl.1 hd_isNeed ⟨Nat.le_of_ble_eq_true rfl, Nat.le_of_ble_eq_true rfl⟩ rfl rfl (Nat.le_of_ble_eq_true rfl) ⟨Nat.le_refl 0, Nat.le_refl 0⟩ (fun H locs hM => ?_)
  refine lv_if_ne (tgt := 10) C.1 C.2.1 (dd_at td_worth 3 rfl) (by decide) (fun c4 => ?_) (fun c4 => ?_)
  · replace hf := fc_of_f hf c4
    refine lv_aload_n C.1 C.2.1 (dd_at td_worth 6 rfl) rfl (lv_at hl 0 rfl) ?_
    refine lv_iload_n C.1 C.2.1 (dd_at td_worth 7 rfl) rfl (lv_at hl 2 rfl) ?_
    refine lv_iconst (v := (0 : Int32)) C.1 C.2.1 (dd_at td_worth 8 rfl) (by decide) ?_
    refine lv_bipush (v := (60 : Int32)) C.1 C.2.1 (dd_at td_worth 9 rfl) (by decide) ?_
    obtain ⟨r7, st5, hx6, hf⟩ := fc_of_bn hf
    refine mm_ci (As := [.int x2, .int (0 : Int32), .int (60 : Int32)]) (rest := []) (n := 3) C hM (c_in l D o ad cs fu x2 (0 : Int32) (60 : Int32) st1) (List.mem_of_getElem? (i := 18) rfl) (dd_at td_worth 10 rfl) hx6 hl.1 hd_in ⟨Nat.le_of_ble_eq_true rfl, Nat.le_of_ble_eq_true rfl⟩ rfl rfl (Nat.le_of_ble_eq_true rfl) ⟨Nat.le_refl 0, Nat.le_refl 0⟩ (fun H locs hM => ?_)
    refine lv_if_eq (tgt := 44) C.1 C.2.1 (dd_at td_worth 11 rfl) (by decide) (fun c8 => ?_) (fun c8 => ?_)
    · replace hf := fc_of_t hf c8
      refine lv_bipush (v := (-2 : Int32)) C.1 C.2.1 (dd_at td_worth 25 rfl) (by decide) ?_
      exact mm_ri C hM (dd_at td_worth 26 rfl) hf
    · replace hf := fc_of_f hf c8
      refine lv_aload_n C.1 C.2.1 (dd_at td_worth 12 rfl) rfl (lv_at hl 0 rfl) ?_
      refine lv_iload_n C.1 C.2.1 (dd_at td_worth 13 rfl) rfl (lv_at hl 3 rfl) ?_
      obtain ⟨r11, st9, hx10, hf⟩ := fc_of_bn hf
      refine mm_ci (As := [.int x3]) (rest := []) (n := 1) C hM (c_isDarks l D o ad cs fu x3 st5) (List.mem_of_getElem? (i := 20) rfl) (dd_at td_worth 14 rfl) hx10 hl.1 hd_isDarks ⟨Nat.le_of_ble_eq_true rfl, Nat.le_of_ble_eq_true rfl⟩ rfl rfl (Nat.le_of_ble_eq_true rfl) ⟨Nat.le_refl 0, Nat.le_refl 0⟩ (fun H locs hM => ?_)
      refine lv_if_eq (tgt := 44) C.1 C.2.1 (dd_at td_worth 15 rfl) (by decide) (fun c12 => ?_) (fun c12 => ?_)
      · replace hf := fc_of_t hf c12
        refine lv_bipush (v := (-2 : Int32)) C.1 C.2.1 (dd_at td_worth 25 rfl) (by decide) ?_
        exact mm_ri C hM (dd_at td_worth 26 rfl) hf
      · replace hf := fc_of_f hf c12
        refine lv_aload_n C.1 C.2.1 (dd_at td_worth 16 rfl) rfl (lv_at hl 0 rfl) ?_
        refine lv_iload_n C.1 C.2.1 (dd_at td_worth 17 rfl) rfl (lv_at hl 1 rfl) ?_
        refine lv_aload_n C.1 C.2.1 (dd_at td_worth 18 rfl) rfl (lv_at hl 0 rfl) ?_
        refine mm_gI C hM 3 (dd_at td_worth 19 rfl) (by decide) (by decide) (by decide) ?_
        refine lv_iload_n C.1 C.2.1 (dd_at td_worth 20 rfl) rfl (lv_at hl 2 rfl) ?_
        refine lv_iadd C.1 C.2.1 (dd_at td_worth 21 rfl) ?_
        refine lv_iload_n C.1 C.2.1 (dd_at td_worth 22 rfl) rfl (lv_at hl 3 rfl) ?_
        obtain ⟨r15, st13, hx14, hf⟩ := fc_of_bn hf
        refine mm_ci (As := [.int x1, .int ((mm_I st9 3) + x2), .int x3]) (rest := []) (n := 3) C hM (c_worthOf l D o ad cs fu x1 ((mm_I st9 3) + x2) x3 st9) (List.mem_of_getElem? (i := 48) rfl) (dd_at td_worth 23 rfl) hx14 hl.1 hd_worthOf ⟨Nat.le_of_ble_eq_true rfl, Nat.le_of_ble_eq_true rfl⟩ rfl rfl (Nat.le_of_ble_eq_true rfl) ⟨Nat.le_refl 0, Nat.le_refl 0⟩ (fun H locs hM => ?_)
        refine lv_goto (tgt := 46) C.1 C.2.1 (dd_at td_worth 24 rfl) (by decide) ?_
        exact mm_ri C hM (dd_at td_worth 26 rfl) hf
  · replace hf := fc_of_t hf c4
    refine lv_iconst (v := (-1 : Int32)) C.1 C.2.1 (dd_at td_worth 4 rfl) (by decide) ?_
    exact mm_ri C hM (dd_at td_worth 5 rfl) hf
theorem c_worth (l : Launch) (D : va_G) (o : Nat) (ad : Nat → Nat) (cs : ClassId × ClassId × ClassId) (fu : Nat) (x1 : Int32) (x2 : Int32) (x3 : Int32) (st : mm_S) : mm_Mi l D o ad cs yX12_worth cX12_worth 4 (some .int) 4 104 [.int x1, .int x2, .int x3] st (M_worth fu x1 x2 x3 st) := by
  intro r st' hf
  refine mm_enter (cc := cX12_worth) (nL := 4) (ret := some .int) (by decide) rfl (Nat.le_of_ble_eq_true rfl) ?_
  intro p e s m args below meth c ls C hl hM
  exact w_worth C fu x1 x2 x3 st hf hl hM

/-! held -/
def tb_held : List (Nat × Instr × Nat) := [(0, .iload_n 1, 1), (1, .ldc_w 285, 3), (4, .if_icmp .le 9, 3), (7, .ldc_w 285, 3), (10, .goto 17, 3), (13, .iload_n 1, 1), (14, .ldc_w 286, 3), (17, .if_icmp .ge 9, 3), (20, .ldc_w 286, 3), (23, .goto 4, 3), (26, .iload_n 1, 1), (27, .ireturn, 1)]
theorem td_held : tb_held.all (fun q => decide (decode cX12_held q.1 = .ok (q.2.1, q.2.2))) = true := by decide +kernel
theorem hd_held : yX12_held.cls = RX12 ∧ yX12_held.cls ≠ "java/lang/invoke/MethodHandle" ∧ yX12_held.cls ≠ "java/lang/invoke/VarHandle" ∧ (parseMethodDescriptor yX12_held.desc).map (fun d => d.parameters.length) = some 1 := by decide +kernel
theorem w_held {p : Program} {l : Launch} {e : Env} {s : State} {m : MethodId} {args : Array Value} {below : List Frame} {meth : Method} {c : Code} {D : va_G} {o : Nat} {ad : Nat → Nat} {cs : ClassId × ClassId × ClassId} {r : Int32} {st' : mm_S} (C : mm_C p s m args meth c cX12_held 2 (some .int) D cs) (fu : Nat) (x1 : Int32) (st : mm_S) (hf : M_held fu x1 st = some (r, st')) {H : Heap} {locs : List Loc} {ls : Array Slot} (hl : lv_has ls 2 [(0, .ref o), (1, .int x1)]) (hM : mm_H D o ad cs s.heap st H locs) : W p l e (mm_R 0 0) s m args below meth c H locs 0 0 (MQ below (mm_Qi D o ad cs r st') args s 0 0 (mm_A o ad)) (F0 m 0 ls []) := by
  unfold M_held at hf
  refine lv_iload_n C.1 C.2.1 (dd_at td_held 0 rfl) rfl (lv_at hl 1 rfl) ?_
  refine lv_ldcw (v := (999999 : Int32)) C.1 C.2.1 C.2.2.2.2.1 (C.2.2.2.2.2.1 (.constant RX12 285 (999999 : Int32)) (mm_Wk (by decide +kernel))) (dd_at td_held 1 rfl) ?_
  refine lv_icmp_le (tgt := 13) C.1 C.2.1 (dd_at td_held 2 rfl) (by decide) (fun c1 => ?_) (fun c1 => ?_)
  · replace hf := fc_of_t hf c1
    refine lv_iload_n C.1 C.2.1 (dd_at td_held 5 rfl) rfl (lv_at hl 1 rfl) ?_
    refine lv_ldcw (v := (-999999 : Int32)) C.1 C.2.1 C.2.2.2.2.1 (C.2.2.2.2.2.1 (.constant RX12 286 (-999999 : Int32)) (mm_Wk (by decide +kernel))) (dd_at td_held 6 rfl) ?_
    refine lv_icmp_ge (tgt := 26) C.1 C.2.1 (dd_at td_held 7 rfl) (by decide) (fun c2 => ?_) (fun c2 => ?_)
    · replace hf := fc_of_t hf c2
      refine lv_iload_n C.1 C.2.1 (dd_at td_held 10 rfl) rfl (lv_at hl 1 rfl) ?_
      exact mm_ri C hM (dd_at td_held 11 rfl) hf
    · replace hf := fc_of_f hf c2
      refine lv_ldcw (v := (-999999 : Int32)) C.1 C.2.1 C.2.2.2.2.1 (C.2.2.2.2.2.1 (.constant RX12 286 (-999999 : Int32)) (mm_Wk (by decide +kernel))) (dd_at td_held 8 rfl) ?_
      refine lv_goto (tgt := 27) C.1 C.2.1 (dd_at td_held 9 rfl) (by decide) ?_
      exact mm_ri C hM (dd_at td_held 11 rfl) hf
  · replace hf := fc_of_f hf c1
    refine lv_ldcw (v := (999999 : Int32)) C.1 C.2.1 C.2.2.2.2.1 (C.2.2.2.2.2.1 (.constant RX12 285 (999999 : Int32)) (mm_Wk (by decide +kernel))) (dd_at td_held 3 rfl) ?_
    refine lv_goto (tgt := 27) C.1 C.2.1 (dd_at td_held 4 rfl) (by decide) ?_
    exact mm_ri C hM (dd_at td_held 11 rfl) hf
theorem c_held (l : Launch) (D : va_G) (o : Nat) (ad : Nat → Nat) (cs : ClassId × ClassId × ClassId) (fu : Nat) (x1 : Int32) (st : mm_S) : mm_Mi l D o ad cs yX12_held cX12_held 2 (some .int) 0 0 [.int x1] st (M_held fu x1 st) := by
  intro r st' hf
  refine mm_enter (cc := cX12_held) (nL := 2) (ret := some .int) (by decide) rfl (Nat.le_of_ble_eq_true rfl) ?_
  intro p e s m args below meth c ls C hl hM
  exact w_held C fu x1 st hf hl hM

/-! serve -/
def tb_serve : List (Nat × Instr × Nat) := [(0, .aload_n 0, 1), (1, .iload_n 1, 1), (2, .invokevirtual 215, 3), (5, .ifCond .ne 7, 3), (8, .ldc_w 287, 3), (11, .ireturn, 1), (12, .aload_n 0, 1), (13, .getfield 13, 3), (16, .ifCond .eq 25, 3), (19, .aload_n 0, 1), (20, .getfield 19, 3), (23, .sipush 9999, 3), (26, .if_icmp .eq 15, 3), (29, .aload_n 0, 1), (30, .getfield 29, 3), (33, .iload_n 1, 1), (34, .iaload, 1), (35, .sipush 9999, 3), (38, .if_icmp .ne 7, 3), (41, .ldc_w 288, 3), (44, .ireturn, 1), (45, .aload_n 0, 1), (46, .iload_n 1, 1), (47, .aload_n 0, 1), (48, .getfield 19, 3), (51, .aload_n 0, 1), (52, .getfield 13, 3), (55, .invokevirtual 282, 3), (58, .istore_n 2, 1), (59, .aload_n 0, 1), (60, .dup, 1), (61, .getfield 13, 3), (64, .iconst 1, 1), (65, .isub, 1), (66, .putfield 13, 3), (69, .aload_n 0, 1), (70, .getfield 29, 3), (73, .iload_n 1, 1), (74, .dup2, 1), (75, .iaload, 1), (76, .iconst 1, 1), (77, .iadd, 1), (78, .iastore, 1), (79, .aload_n 0, 1), (80, .aload_n 0, 1), (81, .aload_n 0, 1), (82, .getfield 16, 3), (85, .iload_n 2, 1), (86, .iadd, 1), (87, .aload_n 0, 1), (88, .invokevirtual 289, 3), (91, .aload_n 0, 1), (92, .getfield 13, 3), (95, .imul, 1), (96, .isub, 1), (97, .invokevirtual 292, 3), (100, .putfield 16, 3), (103, .aload_n 0, 1), (104, .dup, 1), (105, .getfield 19, 3), (108, .iconst 1, 1), (109, .iadd, 1), (110, .putfield 19, 3), (113, .aload_n 0, 1), (114, .getfield 16, 3), (117, .ireturn, 1)]
theorem td_serve : tb_serve.all (fun q => decide (decode cX12_serve q.1 = .ok (q.2.1, q.2.2))) = true := by decide +kernel
theorem w_serve {p : Program} {l : Launch} {e : Env} {s : State} {m : MethodId} {args : Array Value} {below : List Frame} {meth : Method} {c : Code} {D : va_G} {o : Nat} {ad : Nat → Nat} {cs : ClassId × ClassId × ClassId} {r : Int32} {st' : mm_S} (C : mm_C p s m args meth c cX12_serve 3 (some .int) D cs) (fu : Nat) (x1 : Int32) (st : mm_S) (hf : M_serve fu x1 st = some (r, st')) {H : Heap} {locs : List Loc} {ls : Array Slot} (hl : lv_has ls 3 [(0, .ref o), (1, .int x1)]) (hM : mm_H D o ad cs s.heap st H locs) : W p l e (mm_R 4 104) s m args below meth c H locs 0 0 (MQ below (mm_Qi D o ad cs r st') args s 0 0 (mm_A o ad)) (F0 m 0 ls []) := by
  unfold M_serve at hf
  refine lv_aload_n C.1 C.2.1 (dd_at td_serve 0 rfl) rfl (lv_at hl 0 rfl) ?_
  refine lv_iload_n C.1 C.2.1 (dd_at td_serve 1 rfl) rfl (lv_at hl 1 rfl) ?_
  obtain ⟨r3, st1, hx2, hf⟩ := fc_of_bn hf
  refine mm_ci (As := [.int x1]) (rest := []) (n := 1) C hM (c_isNeed l D o ad cs fu x1 st) (List.mem_of_getElem? (i := 22) rfl) (dd_at td_serve 2 rfl) hx2 hl.1 hd_isNeed ⟨Nat.le_of_ble_eq_true rfl, Nat.le_of_ble_eq_true rfl⟩ rfl rfl (Nat.le_of_ble_eq_true rfl) ⟨Nat.le_refl 0, Nat.le_refl 0⟩ (fun H locs hM => ?_)
  refine lv_if_ne (tgt := 12) C.1 C.2.1 (dd_at td_serve 3 rfl) (by decide) (fun c4 => ?_) (fun c4 => ?_)
  · replace hf := fc_of_f hf c4
    refine lv_aload_n C.1 C.2.1 (dd_at td_serve 6 rfl) rfl (lv_at hl 0 rfl) ?_
    refine mm_gI C hM 1 (dd_at td_serve 7 rfl) (by decide) (by decide) (by decide) ?_
    refine lv_if_eq (tgt := 41) C.1 C.2.1 (dd_at td_serve 8 rfl) (by decide) (fun c5 => ?_) (fun c5 => ?_)
    · replace hf := fc_of_t hf c5
      refine lv_ldcw (v := (-10000002 : Int32)) C.1 C.2.1 C.2.2.2.2.1 (C.2.2.2.2.2.1 (.constant RX12 288 (-10000002 : Int32)) (mm_Wk (by decide +kernel))) (dd_at td_serve 19 rfl) ?_
      exact mm_ri C hM (dd_at td_serve 20 rfl) hf
    · replace hf := fc_of_f hf c5
      refine lv_aload_n C.1 C.2.1 (dd_at td_serve 9 rfl) rfl (lv_at hl 0 rfl) ?_
      refine mm_gI C hM 3 (dd_at td_serve 10 rfl) (by decide) (by decide) (by decide) ?_
      refine lv_sipush (v := (9999 : Int32)) C.1 C.2.1 (dd_at td_serve 11 rfl) (by decide) ?_
      refine lv_icmp_eq (tgt := 41) C.1 C.2.1 (dd_at td_serve 12 rfl) (by decide) (fun c6 => ?_) (fun c6 => ?_)
      · replace hf := fc_of_t hf c6
        refine lv_ldcw (v := (-10000002 : Int32)) C.1 C.2.1 C.2.2.2.2.1 (C.2.2.2.2.2.1 (.constant RX12 288 (-10000002 : Int32)) (mm_Wk (by decide +kernel))) (dd_at td_serve 19 rfl) ?_
        exact mm_ri C hM (dd_at td_serve 20 rfl) hf
      · replace hf := fc_of_f hf c6
        refine lv_aload_n C.1 C.2.1 (dd_at td_serve 13 rfl) rfl (lv_at hl 0 rfl) ?_
        refine mm_gA C hM 6 (dd_at td_serve 14 rfl) (by decide) (by decide) (by decide) ?_
        refine lv_iload_n C.1 C.2.1 (dd_at td_serve 15 rfl) rfl (lv_at hl 1 rfl) ?_
        obtain ⟨g7, hf⟩ := fc_of_gd hf
        refine mm_iald C hM 6 (dd_at td_serve 16 rfl) (by decide) (by decide) (fc_of_ix g7) ?_
        refine lv_sipush (v := (9999 : Int32)) C.1 C.2.1 (dd_at td_serve 17 rfl) (by decide) ?_
        refine lv_icmp_ne (tgt := 45) C.1 C.2.1 (dd_at td_serve 18 rfl) (by decide) (fun c8 => ?_) (fun c8 => ?_)
        · replace hf := fc_of_f hf c8
          refine lv_aload_n C.1 C.2.1 (dd_at td_serve 21 rfl) rfl (lv_at hl 0 rfl) ?_
          refine lv_iload_n C.1 C.2.1 (dd_at td_serve 22 rfl) rfl (lv_at hl 1 rfl) ?_
          refine lv_aload_n C.1 C.2.1 (dd_at td_serve 23 rfl) rfl (lv_at hl 0 rfl) ?_
          refine mm_gI C hM 3 (dd_at td_serve 24 rfl) (by decide) (by decide) (by decide) ?_
          refine lv_aload_n C.1 C.2.1 (dd_at td_serve 25 rfl) rfl (lv_at hl 0 rfl) ?_
          refine mm_gI C hM 1 (dd_at td_serve 26 rfl) (by decide) (by decide) (by decide) ?_
          obtain ⟨r11, st9, hx10, hf⟩ := fc_of_bn hf
          refine mm_ci (As := [.int x1, .int (mm_I st1 3), .int (mm_I st1 1)]) (rest := []) (n := 3) C hM (c_worthOf l D o ad cs fu x1 (mm_I st1 3) (mm_I st1 1) st1) (List.mem_of_getElem? (i := 48) rfl) (dd_at td_serve 27 rfl) hx10 hl.1 hd_worthOf ⟨Nat.le_of_ble_eq_true rfl, Nat.le_of_ble_eq_true rfl⟩ rfl rfl (Nat.le_of_ble_eq_true rfl) ⟨Nat.le_refl 0, Nat.le_refl 0⟩ (fun H locs hM => ?_)
          refine lv_istore_n (lv' := [(2, .int r11), (0, .ref o), (1, .int x1)]) C.1 C.2.1 (dd_at td_serve 28 rfl) rfl hl (by decide) rfl (fun ls hl => ?_)
          refine lv_aload_n C.1 C.2.1 (dd_at td_serve 29 rfl) rfl (lv_at hl 1 rfl) ?_
          refine lv_dup C.1 C.2.1 (dd_at td_serve 30 rfl) rfl ?_
          refine mm_gI C hM 1 (dd_at td_serve 31 rfl) (by decide) (by decide) (by decide) ?_
          refine lv_iconst (v := (1 : Int32)) C.1 C.2.1 (dd_at td_serve 32 rfl) (by decide) ?_
          refine lv_isub C.1 C.2.1 (dd_at td_serve 33 rfl) ?_
          refine mm_pI C hM 1 (dd_at td_serve 34 rfl) (by decide) (by decide) (by decide) rfl rfl (fun st12 H locs est12 hM => ?_)
          replace hf := fc_of_nm hf st12 est12
          refine lv_aload_n C.1 C.2.1 (dd_at td_serve 35 rfl) rfl (lv_at hl 1 rfl) ?_
          refine mm_gA C hM 6 (dd_at td_serve 36 rfl) (by decide) (by decide) (by decide) ?_
          refine lv_iload_n C.1 C.2.1 (dd_at td_serve 37 rfl) rfl (lv_at hl 2 rfl) ?_
          refine lv_dup2_11 C.1 C.2.1 (dd_at td_serve 38 rfl) rfl rfl ?_
          obtain ⟨g13, hf⟩ := fc_of_gd hf
          refine mm_iald C hM 6 (dd_at td_serve 39 rfl) (by decide) (by decide) (fc_of_ix g13) ?_
          refine lv_iconst (v := (1 : Int32)) C.1 C.2.1 (dd_at td_serve 40 rfl) (by decide) ?_
          refine lv_iadd C.1 C.2.1 (dd_at td_serve 41 rfl) ?_
          obtain ⟨g14, hf⟩ := fc_of_gd hf
          refine mm_iast C hM 6 (dd_at td_serve 42 rfl) (by decide) (by decide) (fc_of_ix g14) (fun st15 H locs est15 hM => ?_)
          replace hf := fc_of_nm hf st15 est15
          refine lv_aload_n C.1 C.2.1 (dd_at td_serve 43 rfl) rfl (lv_at hl 1 rfl) ?_
          refine lv_aload_n C.1 C.2.1 (dd_at td_serve 44 rfl) rfl (lv_at hl 1 rfl) ?_
          refine lv_aload_n C.1 C.2.1 (dd_at td_serve 45 rfl) rfl (lv_at hl 1 rfl) ?_
          refine mm_gI C hM 2 (dd_at td_serve 46 rfl) (by decide) (by decide) (by decide) ?_
          refine lv_iload_n C.1 C.2.1 (dd_at td_serve 47 rfl) rfl (lv_at hl 0 rfl) ?_
          refine lv_iadd C.1 C.2.1 (dd_at td_serve 48 rfl) ?_
          refine lv_aload_n C.1 C.2.1 (dd_at td_serve 49 rfl) rfl (lv_at hl 1 rfl) ?_
          obtain ⟨r18, st16, hx17, hf⟩ := fc_of_bn hf
          refine mm_ci (As := []) (rest := [.int ((mm_I st15 2) + r11), .ref o, .ref o]) (n := 0) C hM (c_keep l D o ad cs fu st15) (List.mem_of_getElem? (i := 26) rfl) (dd_at td_serve 50 rfl) hx17 hl.1 hd_keep ⟨Nat.le_of_ble_eq_true rfl, Nat.le_of_ble_eq_true rfl⟩ rfl rfl (Nat.le_of_ble_eq_true rfl) ⟨Nat.le_refl 0, Nat.le_refl 0⟩ (fun H locs hM => ?_)
          refine lv_aload_n C.1 C.2.1 (dd_at td_serve 51 rfl) rfl (lv_at hl 1 rfl) ?_
          refine mm_gI C hM 1 (dd_at td_serve 52 rfl) (by decide) (by decide) (by decide) ?_
          refine lv_imul C.1 C.2.1 (dd_at td_serve 53 rfl) ?_
          refine lv_isub C.1 C.2.1 (dd_at td_serve 54 rfl) ?_
          obtain ⟨r21, st19, hx20, hf⟩ := fc_of_bn hf
          refine mm_ci (As := [.int (((mm_I st15 2) + r11) - (r18 * (mm_I st16 1)))]) (rest := [.ref o]) (n := 1) C hM (c_held l D o ad cs fu (((mm_I st15 2) + r11) - (r18 * (mm_I st16 1))) st16) (List.mem_of_getElem? (i := 14) rfl) (dd_at td_serve 55 rfl) hx20 hl.1 hd_held ⟨Nat.le_of_ble_eq_true rfl, Nat.le_of_ble_eq_true rfl⟩ rfl rfl (Nat.le_of_ble_eq_true rfl) ⟨Nat.le_refl 0, Nat.le_refl 0⟩ (fun H locs hM => ?_)
          refine mm_pI C hM 2 (dd_at td_serve 56 rfl) (by decide) (by decide) (by decide) rfl rfl (fun st22 H locs est22 hM => ?_)
          replace hf := fc_of_nm hf st22 est22
          refine lv_aload_n C.1 C.2.1 (dd_at td_serve 57 rfl) rfl (lv_at hl 1 rfl) ?_
          refine lv_dup C.1 C.2.1 (dd_at td_serve 58 rfl) rfl ?_
          refine mm_gI C hM 3 (dd_at td_serve 59 rfl) (by decide) (by decide) (by decide) ?_
          refine lv_iconst (v := (1 : Int32)) C.1 C.2.1 (dd_at td_serve 60 rfl) (by decide) ?_
          refine lv_iadd C.1 C.2.1 (dd_at td_serve 61 rfl) ?_
          refine mm_pI C hM 3 (dd_at td_serve 62 rfl) (by decide) (by decide) (by decide) rfl rfl (fun st23 H locs est23 hM => ?_)
          replace hf := fc_of_nm hf st23 est23
          refine lv_aload_n C.1 C.2.1 (dd_at td_serve 63 rfl) rfl (lv_at hl 1 rfl) ?_
          refine mm_gI C hM 2 (dd_at td_serve 64 rfl) (by decide) (by decide) (by decide) ?_
          exact mm_ri C hM (dd_at td_serve 65 rfl) hf
        · replace hf := fc_of_t hf c8
          refine lv_ldcw (v := (-10000002 : Int32)) C.1 C.2.1 C.2.2.2.2.1 (C.2.2.2.2.2.1 (.constant RX12 288 (-10000002 : Int32)) (mm_Wk (by decide +kernel))) (dd_at td_serve 19 rfl) ?_
          exact mm_ri C hM (dd_at td_serve 20 rfl) hf
  · replace hf := fc_of_t hf c4
    refine lv_ldcw (v := (-10000001 : Int32)) C.1 C.2.1 C.2.2.2.2.1 (C.2.2.2.2.2.1 (.constant RX12 287 (-10000001 : Int32)) (mm_Wk (by decide +kernel))) (dd_at td_serve 4 rfl) ?_
    exact mm_ri C hM (dd_at td_serve 5 rfl) hf
theorem c_serve (l : Launch) (D : va_G) (o : Nat) (ad : Nat → Nat) (cs : ClassId × ClassId × ClassId) (fu : Nat) (x1 : Int32) (st : mm_S) : mm_Mi l D o ad cs yX12_serve cX12_serve 3 (some .int) 4 104 [.int x1] st (M_serve fu x1 st) := by
  intro r st' hf
  refine mm_enter (cc := cX12_serve) (nL := 3) (ret := some .int) (by decide) rfl (Nat.le_of_ble_eq_true rfl) ?_
  intro p e s m args below meth c ls C hl hM
  exact w_serve C fu x1 st hf hl hM

/-! spare -/
def tb_spare : List (Nat × Instr × Nat) := [(0, .aload_n 0, 1), (1, .iload_n 1, 1), (2, .invokevirtual 215, 3), (5, .ifCond .ne 7, 3), (8, .ldc_w 287, 3), (11, .ireturn, 1), (12, .aload_n 0, 1), (13, .getfield 19, 3), (16, .sipush 9999, 3), (19, .if_icmp .ne 7, 3), (22, .ldc_w 288, 3), (25, .ireturn, 1), (26, .aload_n 0, 1), (27, .aload_n 0, 1), (28, .aload_n 0, 1), (29, .getfield 16, 3), (32, .aload_n 0, 1), (33, .invokevirtual 289, 3), (36, .aload_n 0, 1), (37, .getfield 13, 3), (40, .imul, 1), (41, .isub, 1), (42, .invokevirtual 292, 3), (45, .putfield 16, 3), (48, .aload_n 0, 1), (49, .dup, 1), (50, .getfield 19, 3), (53, .iconst 1, 1), (54, .iadd, 1), (55, .putfield 19, 3), (58, .aload_n 0, 1), (59, .getfield 16, 3), (62, .ireturn, 1)]
theorem td_spare : tb_spare.all (fun q => decide (decode cX12_spare q.1 = .ok (q.2.1, q.2.2))) = true := by decide +kernel
theorem w_spare {p : Program} {l : Launch} {e : Env} {s : State} {m : MethodId} {args : Array Value} {below : List Frame} {meth : Method} {c : Code} {D : va_G} {o : Nat} {ad : Nat → Nat} {cs : ClassId × ClassId × ClassId} {r : Int32} {st' : mm_S} (C : mm_C p s m args meth c cX12_spare 2 (some .int) D cs) (fu : Nat) (x1 : Int32) (st : mm_S) (hf : M_spare fu x1 st = some (r, st')) {H : Heap} {locs : List Loc} {ls : Array Slot} (hl : lv_has ls 2 [(0, .ref o), (1, .int x1)]) (hM : mm_H D o ad cs s.heap st H locs) : W p l e (mm_R 2 44) s m args below meth c H locs 0 0 (MQ below (mm_Qi D o ad cs r st') args s 0 0 (mm_A o ad)) (F0 m 0 ls []) := by
  unfold M_spare at hf
  refine lv_aload_n C.1 C.2.1 (dd_at td_spare 0 rfl) rfl (lv_at hl 0 rfl) ?_
  refine lv_iload_n C.1 C.2.1 (dd_at td_spare 1 rfl) rfl (lv_at hl 1 rfl) ?_
  obtain ⟨r3, st1, hx2, hf⟩ := fc_of_bn hf
  refine mm_ci (As := [.int x1]) (rest := []) (n := 1) C hM (c_isNeed l D o ad cs fu x1 st) (List.mem_of_getElem? (i := 22) rfl) (dd_at td_spare 2 rfl) hx2 hl.1 hd_isNeed ⟨Nat.le_of_ble_eq_true rfl, Nat.le_of_ble_eq_true rfl⟩ rfl rfl (Nat.le_of_ble_eq_true rfl) ⟨Nat.le_refl 0, Nat.le_refl 0⟩ (fun H locs hM => ?_)
  refine lv_if_ne (tgt := 12) C.1 C.2.1 (dd_at td_spare 3 rfl) (by decide) (fun c4 => ?_) (fun c4 => ?_)
  · replace hf := fc_of_f hf c4
    refine lv_aload_n C.1 C.2.1 (dd_at td_spare 6 rfl) rfl (lv_at hl 0 rfl) ?_
    refine mm_gI C hM 3 (dd_at td_spare 7 rfl) (by decide) (by decide) (by decide) ?_
    refine lv_sipush (v := (9999 : Int32)) C.1 C.2.1 (dd_at td_spare 8 rfl) (by decide) ?_
    refine lv_icmp_ne (tgt := 26) C.1 C.2.1 (dd_at td_spare 9 rfl) (by decide) (fun c5 => ?_) (fun c5 => ?_)
    · replace hf := fc_of_f hf c5
      refine lv_aload_n C.1 C.2.1 (dd_at td_spare 12 rfl) rfl (lv_at hl 0 rfl) ?_
      refine lv_aload_n C.1 C.2.1 (dd_at td_spare 13 rfl) rfl (lv_at hl 0 rfl) ?_
      refine lv_aload_n C.1 C.2.1 (dd_at td_spare 14 rfl) rfl (lv_at hl 0 rfl) ?_
      refine mm_gI C hM 2 (dd_at td_spare 15 rfl) (by decide) (by decide) (by decide) ?_
      refine lv_aload_n C.1 C.2.1 (dd_at td_spare 16 rfl) rfl (lv_at hl 0 rfl) ?_
      obtain ⟨r8, st6, hx7, hf⟩ := fc_of_bn hf
      refine mm_ci (As := []) (rest := [.int (mm_I st1 2), .ref o, .ref o]) (n := 0) C hM (c_keep l D o ad cs fu st1) (List.mem_of_getElem? (i := 26) rfl) (dd_at td_spare 17 rfl) hx7 hl.1 hd_keep ⟨Nat.le_of_ble_eq_true rfl, Nat.le_of_ble_eq_true rfl⟩ rfl rfl (Nat.le_of_ble_eq_true rfl) ⟨Nat.le_refl 0, Nat.le_refl 0⟩ (fun H locs hM => ?_)
      refine lv_aload_n C.1 C.2.1 (dd_at td_spare 18 rfl) rfl (lv_at hl 0 rfl) ?_
      refine mm_gI C hM 1 (dd_at td_spare 19 rfl) (by decide) (by decide) (by decide) ?_
      refine lv_imul C.1 C.2.1 (dd_at td_spare 20 rfl) ?_
      refine lv_isub C.1 C.2.1 (dd_at td_spare 21 rfl) ?_
      obtain ⟨r11, st9, hx10, hf⟩ := fc_of_bn hf
      refine mm_ci (As := [.int ((mm_I st1 2) - (r8 * (mm_I st6 1)))]) (rest := [.ref o]) (n := 1) C hM (c_held l D o ad cs fu ((mm_I st1 2) - (r8 * (mm_I st6 1))) st6) (List.mem_of_getElem? (i := 14) rfl) (dd_at td_spare 22 rfl) hx10 hl.1 hd_held ⟨Nat.le_of_ble_eq_true rfl, Nat.le_of_ble_eq_true rfl⟩ rfl rfl (Nat.le_of_ble_eq_true rfl) ⟨Nat.le_refl 0, Nat.le_refl 0⟩ (fun H locs hM => ?_)
      refine mm_pI C hM 2 (dd_at td_spare 23 rfl) (by decide) (by decide) (by decide) rfl rfl (fun st12 H locs est12 hM => ?_)
      replace hf := fc_of_nm hf st12 est12
      refine lv_aload_n C.1 C.2.1 (dd_at td_spare 24 rfl) rfl (lv_at hl 0 rfl) ?_
      refine lv_dup C.1 C.2.1 (dd_at td_spare 25 rfl) rfl ?_
      refine mm_gI C hM 3 (dd_at td_spare 26 rfl) (by decide) (by decide) (by decide) ?_
      refine lv_iconst (v := (1 : Int32)) C.1 C.2.1 (dd_at td_spare 27 rfl) (by decide) ?_
      refine lv_iadd C.1 C.2.1 (dd_at td_spare 28 rfl) ?_
      refine mm_pI C hM 3 (dd_at td_spare 29 rfl) (by decide) (by decide) (by decide) rfl rfl (fun st13 H locs est13 hM => ?_)
      replace hf := fc_of_nm hf st13 est13
      refine lv_aload_n C.1 C.2.1 (dd_at td_spare 30 rfl) rfl (lv_at hl 0 rfl) ?_
      refine mm_gI C hM 2 (dd_at td_spare 31 rfl) (by decide) (by decide) (by decide) ?_
      exact mm_ri C hM (dd_at td_spare 32 rfl) hf
    · replace hf := fc_of_t hf c5
      refine lv_ldcw (v := (-10000002 : Int32)) C.1 C.2.1 C.2.2.2.2.1 (C.2.2.2.2.2.1 (.constant RX12 288 (-10000002 : Int32)) (mm_Wk (by decide +kernel))) (dd_at td_spare 10 rfl) ?_
      exact mm_ri C hM (dd_at td_spare 11 rfl) hf
  · replace hf := fc_of_t hf c4
    refine lv_ldcw (v := (-10000001 : Int32)) C.1 C.2.1 C.2.2.2.2.1 (C.2.2.2.2.2.1 (.constant RX12 287 (-10000001 : Int32)) (mm_Wk (by decide +kernel))) (dd_at td_spare 4 rfl) ?_
    exact mm_ri C hM (dd_at td_spare 5 rfl) hf
theorem c_spare (l : Launch) (D : va_G) (o : Nat) (ad : Nat → Nat) (cs : ClassId × ClassId × ClassId) (fu : Nat) (x1 : Int32) (st : mm_S) : mm_Mi l D o ad cs yX12_spare cX12_spare 2 (some .int) 2 44 [.int x1] st (M_spare fu x1 st) := by
  intro r st' hf
  refine mm_enter (cc := cX12_spare) (nL := 2) (ret := some .int) (by decide) rfl (Nat.le_of_ble_eq_true rfl) ?_
  intro p e s m args below meth c ls C hl hM
  exact w_spare C fu x1 st hf hl hM

/-! told -/
def tb_told : List (Nat × Instr × Nat) := [(0, .iload_n 1, 1), (1, .tableswitch 51 0 3 #[31, 36, 41, 46], 31), (32, .aload_n 0, 1), (33, .getfield 19, 3), (36, .ireturn, 1), (37, .aload_n 0, 1), (38, .getfield 13, 3), (41, .ireturn, 1), (42, .aload_n 0, 1), (43, .getfield 16, 3), (46, .ireturn, 1), (47, .aload_n 0, 1), (48, .invokevirtual 289, 3), (51, .ireturn, 1), (52, .ldc_w 287, 3), (55, .ireturn, 1)]
theorem td_told : tb_told.all (fun q => decide (decode cX12_told q.1 = .ok (q.2.1, q.2.2))) = true := by decide +kernel
theorem w_told {p : Program} {l : Launch} {e : Env} {s : State} {m : MethodId} {args : Array Value} {below : List Frame} {meth : Method} {c : Code} {D : va_G} {o : Nat} {ad : Nat → Nat} {cs : ClassId × ClassId × ClassId} {r : Int32} {st' : mm_S} (C : mm_C p s m args meth c cX12_told 2 (some .int) D cs) (fu : Nat) (x1 : Int32) (st : mm_S) (hf : M_told fu x1 st = some (r, st')) {H : Heap} {locs : List Loc} {ls : Array Slot} (hl : lv_has ls 2 [(0, .ref o), (1, .int x1)]) (hM : mm_H D o ad cs s.heap st H locs) : W p l e (mm_R 2 42) s m args below meth c H locs 0 0 (MQ below (mm_Qi D o ad cs r st') args s 0 0 (mm_A o ad)) (F0 m 0 ls []) := by
  unfold M_told at hf
  refine lv_iload_n C.1 C.2.1 (dd_at td_told 0 rfl) rfl (lv_at hl 1 rfl) ?_
  by_cases c1 : x1 = (0 : Int32)
  · replace hf := fc_of_t hf c1
    refine lv_tableIn (off := 31) (tgt := 32) C.1 C.2.1 (dd_at td_told 1 rfl) (by rw [c1]; decide) (by rw [c1]; decide) (by rw [c1]; decide) (by decide) ?_
    refine lv_aload_n C.1 C.2.1 (dd_at td_told 2 rfl) rfl (lv_at hl 0 rfl) ?_
    refine mm_gI C hM 3 (dd_at td_told 3 rfl) (by decide) (by decide) (by decide) ?_
    exact mm_ri C hM (dd_at td_told 4 rfl) hf
  · replace hf := fc_of_f hf c1
    by_cases c2 : x1 = (1 : Int32)
    · replace hf := fc_of_t hf c2
      refine lv_tableIn (off := 36) (tgt := 37) C.1 C.2.1 (dd_at td_told 1 rfl) (by rw [c2]; decide) (by rw [c2]; decide) (by rw [c2]; decide) (by decide) ?_
      refine lv_aload_n C.1 C.2.1 (dd_at td_told 5 rfl) rfl (lv_at hl 0 rfl) ?_
      refine mm_gI C hM 1 (dd_at td_told 6 rfl) (by decide) (by decide) (by decide) ?_
      exact mm_ri C hM (dd_at td_told 7 rfl) hf
    · replace hf := fc_of_f hf c2
      by_cases c3 : x1 = (2 : Int32)
      · replace hf := fc_of_t hf c3
        refine lv_tableIn (off := 41) (tgt := 42) C.1 C.2.1 (dd_at td_told 1 rfl) (by rw [c3]; decide) (by rw [c3]; decide) (by rw [c3]; decide) (by decide) ?_
        refine lv_aload_n C.1 C.2.1 (dd_at td_told 8 rfl) rfl (lv_at hl 0 rfl) ?_
        refine mm_gI C hM 2 (dd_at td_told 9 rfl) (by decide) (by decide) (by decide) ?_
        exact mm_ri C hM (dd_at td_told 10 rfl) hf
      · replace hf := fc_of_f hf c3
        by_cases c4 : x1 = (3 : Int32)
        · replace hf := fc_of_t hf c4
          refine lv_tableIn (off := 46) (tgt := 47) C.1 C.2.1 (dd_at td_told 1 rfl) (by rw [c4]; decide) (by rw [c4]; decide) (by rw [c4]; decide) (by decide) ?_
          refine lv_aload_n C.1 C.2.1 (dd_at td_told 11 rfl) rfl (lv_at hl 0 rfl) ?_
          obtain ⟨r7, st5, hx6, hf⟩ := fc_of_bn hf
          refine mm_ci (As := []) (rest := []) (n := 0) C hM (c_keep l D o ad cs fu st) (List.mem_of_getElem? (i := 26) rfl) (dd_at td_told 12 rfl) hx6 hl.1 hd_keep ⟨Nat.le_of_ble_eq_true rfl, Nat.le_of_ble_eq_true rfl⟩ rfl rfl (Nat.le_of_ble_eq_true rfl) ⟨Nat.le_refl 0, Nat.le_refl 0⟩ (fun H locs hM => ?_)
          exact mm_ri C hM (dd_at td_told 13 rfl) hf
        · replace hf := fc_of_f hf c4
          refine lv_tableOut (tgt := 52) C.1 C.2.1 (dd_at td_told 1 rfl) (by have q0 := lv_neT c1 (a := 0) (by decide); have q1 := lv_neT c2 (a := 1) (by decide); have q2 := lv_neT c3 (a := 2) (by decide); have q3 := lv_neT c4 (a := 3) (by decide); omega) (by decide) ?_
          refine lv_ldcw (v := (-10000001 : Int32)) C.1 C.2.1 C.2.2.2.2.1 (C.2.2.2.2.2.1 (.constant RX12 287 (-10000001 : Int32)) (mm_Wk (by decide +kernel))) (dd_at td_told 14 rfl) ?_
          exact mm_ri C hM (dd_at td_told 15 rfl) hf
theorem c_told (l : Launch) (D : va_G) (o : Nat) (ad : Nat → Nat) (cs : ClassId × ClassId × ClassId) (fu : Nat) (x1 : Int32) (st : mm_S) : mm_Mi l D o ad cs yX12_told cX12_told 2 (some .int) 2 42 [.int x1] st (M_told fu x1 st) := by
  intro r st' hf
  refine mm_enter (cc := cX12_told) (nL := 2) (ret := some .int) (by decide) rfl (Nat.le_of_ble_eq_true rfl) ?_
  intro p e s m args below meth c ls C hl hM
  exact w_told C fu x1 st hf hl hM

/-! ways -/
def tb_ways : List (Nat × Instr × Nat) := [(0, .lconst 1, 1), (1, .lstore_n 2, 1), (2, .iconst 0, 1), (3, .istore 4, 2), (5, .iload 4, 2), (7, .iload_n 1, 1), (8, .if_icmp .ge 17, 3), (11, .lload_n 2, 1), (12, .aload_n 0, 1), (13, .getfield 7, 3), (16, .i2l, 1), (17, .lmul, 1), (18, .lstore_n 2, 1), (19, .iinc 4 1, 3), (22, .goto (-17), 3), (25, .lload_n 2, 1), (26, .lreturn, 1)]
theorem td_ways : tb_ways.all (fun q => decide (decode cX12_ways q.1 = .ok (q.2.1, q.2.2))) = true := by decide +kernel
theorem hd_ways : yX12_ways.cls = RX12 ∧ yX12_ways.cls ≠ "java/lang/invoke/MethodHandle" ∧ yX12_ways.cls ≠ "java/lang/invoke/VarHandle" ∧ (parseMethodDescriptor yX12_ways.desc).map (fun d => d.parameters.length) = some 1 := by decide +kernel
theorem w_ways_b5F {p : Program} {l : Launch} {e : Env} {s : State} {m : MethodId} {args : Array Value} {below : List Frame} {meth : Method} {c : Code} {D : va_G} {o : Nat} {ad : Nat → Nat} {cs : ClassId × ClassId × ClassId} {r : Int64} {st' : mm_S} (C : mm_C p s m args meth c cX12_ways 5 (some .long) D cs) (fu : Nat) (K5 : Int32 → Int64 → Int32 → mm_S → Option (Int64 × mm_S)) (hK5 : ∀ (x1 : Int32) (x2 : Int64) (x4 : Int32) (st : mm_S) (H : Heap) (locs : List Loc) (ls : Array Slot), K5 x1 x2 x4 st = some (r, st') → lv_has ls 5 [(0, .ref o), (1, .int x1), (2, .long x2), (4, .int x4)] → mm_H D o ad cs s.heap st H locs → W p l e (mm_R 0 0) s m args below meth c H locs 0 0 (MQ below (mm_Ql D o ad cs r st') args s 0 0 (mm_A o ad)) (F0 m 5 ls [])) (x1 : Int32) (x2 : Int64) (x4 : Int32) (st : mm_S) (hf : M_ways_b5F fu K5 x1 x2 x4 st = some (r, st')) {H : Heap} {locs : List Loc} {ls : Array Slot} (hl : lv_has ls 5 [(0, .ref o), (1, .int x1), (2, .long x2), (4, .int x4)]) (hM : mm_H D o ad cs s.heap st H locs) : W p l e (mm_R 0 0) s m args below meth c H locs 0 0 (MQ below (mm_Ql D o ad cs r st') args s 0 0 (mm_A o ad)) (F0 m 5 ls []) := by
  unfold M_ways_b5F at hf
  refine lv_iload C.1 C.2.1 (dd_at td_ways 4 rfl) (lv_at hl 3 rfl) ?_
  refine lv_iload_n C.1 C.2.1 (dd_at td_ways 5 rfl) rfl (lv_at hl 1 rfl) ?_
  refine lv_icmp_ge (tgt := 25) C.1 C.2.1 (dd_at td_ways 6 rfl) (by decide) (fun c1 => ?_) (fun c1 => ?_)
  · replace hf := fc_of_t hf c1
    refine lv_lload_n C.1 C.2.1 (dd_at td_ways 15 rfl) rfl (lv_at hl 2 rfl) ?_
    exact mm_rl C hM (dd_at td_ways 16 rfl) hf
  · replace hf := fc_of_f hf c1
    refine lv_lload_n C.1 C.2.1 (dd_at td_ways 7 rfl) rfl (lv_at hl 2 rfl) ?_
    refine lv_aload_n C.1 C.2.1 (dd_at td_ways 8 rfl) rfl (lv_at hl 0 rfl) ?_
    refine mm_gI C hM 0 (dd_at td_ways 9 rfl) (by decide) (by decide) (by decide) ?_
    refine lv_i2l C.1 C.2.1 (dd_at td_ways 10 rfl) rfl ?_
    refine lv_lmul C.1 C.2.1 (dd_at td_ways 11 rfl) ?_
    refine lv_topl (fun v2 ev2 => ?_)
    replace hf := fc_of_nm hf v2 ev2
    refine lv_lstore_n (lv' := [(2, .long v2), (0, .ref o), (1, .int x1), (4, .int x4)]) C.1 C.2.1 (dd_at td_ways 12 rfl) rfl hl (by decide) rfl (fun ls hl => ?_)
    obtain ⟨v3, ev3⟩ : ∃ y : Int32, y = x4 + (1 : Int32) := ⟨_, rfl⟩
    replace hf := fc_of_nm hf v3 ev3
    refine lv_iinc (v := v3) (lv' := [(4, .int v3), (2, .long v2), (0, .ref o), (1, .int x1)]) C.1 C.2.1 (dd_at td_ways 13 rfl) hl (k := 3) rfl (by rw [ev3]; rfl) (by decide) rfl (fun ls hl => ?_)
    refine lv_goto (tgt := 5) C.1 C.2.1 (dd_at td_ways 14 rfl) (by decide) ?_
    exact hK5 x1 v2 v3 st _ _ _ hf (lv_sub hl [2, 3, 1, 0] rfl) hM
theorem w_ways_b5 {p : Program} {l : Launch} {e : Env} {s : State} {m : MethodId} {args : Array Value} {below : List Frame} {meth : Method} {c : Code} {D : va_G} {o : Nat} {ad : Nat → Nat} {cs : ClassId × ClassId × ClassId} {r : Int64} {st' : mm_S} (C : mm_C p s m args meth c cX12_ways 5 (some .long) D cs) (fu : Nat) (n : Nat) : ∀ (x1 : Int32) (x2 : Int64) (x4 : Int32) (st : mm_S), M_ways_b5 fu n x1 x2 x4 st = some (r, st') → ∀ (H : Heap) (locs : List Loc) (ls : Array Slot), lv_has ls 5 [(0, .ref o), (1, .int x1), (2, .long x2), (4, .int x4)] → mm_H D o ad cs s.heap st H locs → W p l e (mm_R 0 0) s m args below meth c H locs 0 0 (MQ below (mm_Ql D o ad cs r st') args s 0 0 (mm_A o ad)) (F0 m 5 ls []) := by
  induction n with
  | zero => exact fun _ _ _ _ hf => fc_no hf
  | succ n ih =>
    intro x1 x2 x4 st hf H locs ls hl hM
    exact w_ways_b5F C fu (fun x1 x2 x4 st => M_ways_b5 fu n x1 x2 x4 st) (fun x1 x2 x4 st H locs ls hf hl hM => ih x1 x2 x4 st hf H locs ls hl hM) x1 x2 x4 st hf hl hM
theorem w_ways {p : Program} {l : Launch} {e : Env} {s : State} {m : MethodId} {args : Array Value} {below : List Frame} {meth : Method} {c : Code} {D : va_G} {o : Nat} {ad : Nat → Nat} {cs : ClassId × ClassId × ClassId} {r : Int64} {st' : mm_S} (C : mm_C p s m args meth c cX12_ways 5 (some .long) D cs) (fu : Nat) (x1 : Int32) (st : mm_S) (hf : M_ways fu x1 st = some (r, st')) {H : Heap} {locs : List Loc} {ls : Array Slot} (hl : lv_has ls 5 [(0, .ref o), (1, .int x1)]) (hM : mm_H D o ad cs s.heap st H locs) : W p l e (mm_R 0 0) s m args below meth c H locs 0 0 (MQ below (mm_Ql D o ad cs r st') args s 0 0 (mm_A o ad)) (F0 m 0 ls []) := by
  unfold M_ways at hf
  refine lv_lconst (v := (1 : Int64)) C.1 C.2.1 (dd_at td_ways 0 rfl) (by decide) ?_
  refine lv_lstore_n (lv' := [(2, .long (1 : Int64)), (0, .ref o), (1, .int x1)]) C.1 C.2.1 (dd_at td_ways 1 rfl) rfl hl (by decide) rfl (fun ls hl => ?_)
  refine lv_iconst (v := (0 : Int32)) C.1 C.2.1 (dd_at td_ways 2 rfl) (by decide) ?_
  refine lv_istore (lv' := [(4, .int (0 : Int32)), (2, .long (1 : Int64)), (0, .ref o), (1, .int x1)]) C.1 C.2.1 (dd_at td_ways 3 rfl) hl (by decide) rfl (fun ls hl => ?_)
  exact w_ways_b5 C fu fu x1 (1 : Int64) (0 : Int32) st hf _ _ _ (lv_sub hl [2, 3, 1, 0] rfl) hM
theorem c_ways (l : Launch) (D : va_G) (o : Nat) (ad : Nat → Nat) (cs : ClassId × ClassId × ClassId) (fu : Nat) (x1 : Int32) (st : mm_S) : mm_Ml l D o ad cs yX12_ways cX12_ways 5 (some .long) 0 0 [.int x1] st (M_ways fu x1 st) := by
  intro r st' hf
  refine mm_enter (cc := cX12_ways) (nL := 5) (ret := some .long) (by decide) rfl (Nat.le_of_ble_eq_true rfl) ?_
  intro p e s m args below meth c ls C hl hM
  exact w_ways C fu x1 st hf hl hM

/-! ifServed -/
def tb_ifServed : List (Nat × Instr × Nat) := [(0, .aload_n 0, 1), (1, .iload_n 3, 1), (2, .iload_n 2, 1), (3, .isub, 1), (4, .iconst 1, 1), (5, .isub, 1), (6, .invokevirtual 295, 3), (9, .aload_n 0, 1), (10, .iload_n 1, 1), (11, .aload_n 0, 1), (12, .getfield 19, 3), (15, .iload_n 2, 1), (16, .iadd, 1), (17, .iload 4, 2), (19, .invokevirtual 282, 3), (22, .aload_n 0, 1), (23, .invokevirtual 289, 3), (26, .iload 4, 2), (28, .iconst 1, 1), (29, .isub, 1), (30, .imul, 1), (31, .isub, 1), (32, .i2l, 1), (33, .lmul, 1), (34, .aload_n 0, 1), (35, .getfield 90, 3), (38, .bipush 10, 2), (40, .iload_n 2, 1), (41, .imul, 1), (42, .bipush 10, 2), (44, .iadd, 1), (45, .iload 4, 2), (47, .iadd, 1), (48, .iconst 1, 1), (49, .isub, 1), (50, .laload, 1), (51, .ladd, 1), (52, .lreturn, 1)]
theorem td_ifServed : tb_ifServed.all (fun q => decide (decode cX12_ifServed q.1 = .ok (q.2.1, q.2.2))) = true := by decide +kernel
theorem hd_ifServed : yX12_ifServed.cls = RX12 ∧ yX12_ifServed.cls ≠ "java/lang/invoke/MethodHandle" ∧ yX12_ifServed.cls ≠ "java/lang/invoke/VarHandle" ∧ (parseMethodDescriptor yX12_ifServed.desc).map (fun d => d.parameters.length) = some 4 := by decide +kernel
theorem w_ifServed {p : Program} {l : Launch} {e : Env} {s : State} {m : MethodId} {args : Array Value} {below : List Frame} {meth : Method} {c : Code} {D : va_G} {o : Nat} {ad : Nat → Nat} {cs : ClassId × ClassId × ClassId} {r : Int64} {st' : mm_S} (C : mm_C p s m args meth c cX12_ifServed 5 (some .long) D cs) (fu : Nat) (x1 : Int32) (x2 : Int32) (x3 : Int32) (x4 : Int32) (st : mm_S) (hf : M_ifServed fu x1 x2 x3 x4 st = some (r, st')) {H : Heap} {locs : List Loc} {ls : Array Slot} (hl : lv_has ls 5 [(0, .ref o), (1, .int x1), (2, .int x2), (3, .int x3), (4, .int x4)]) (hM : mm_H D o ad cs s.heap st H locs) : W p l e (mm_R 4 104) s m args below meth c H locs 0 0 (MQ below (mm_Ql D o ad cs r st') args s 0 0 (mm_A o ad)) (F0 m 0 ls []) := by
  unfold M_ifServed at hf
  refine lv_aload_n C.1 C.2.1 (dd_at td_ifServed 0 rfl) rfl (lv_at hl 0 rfl) ?_
  refine lv_iload_n C.1 C.2.1 (dd_at td_ifServed 1 rfl) rfl (lv_at hl 3 rfl) ?_
  refine lv_iload_n C.1 C.2.1 (dd_at td_ifServed 2 rfl) rfl (lv_at hl 2 rfl) ?_
  refine lv_isub C.1 C.2.1 (dd_at td_ifServed 3 rfl) ?_
  refine lv_iconst (v := (1 : Int32)) C.1 C.2.1 (dd_at td_ifServed 4 rfl) (by decide) ?_
  refine lv_isub C.1 C.2.1 (dd_at td_ifServed 5 rfl) ?_
  obtain ⟨r3, st1, hx2, hf⟩ := fc_of_bn hf
  refine mm_cl (As := [.int ((x3 - x2) - (1 : Int32))]) (rest := []) (n := 1) C hM (c_ways l D o ad cs fu ((x3 - x2) - (1 : Int32)) st) (List.mem_of_getElem? (i := 46) rfl) (dd_at td_ifServed 6 rfl) hx2 hl.1 hd_ways ⟨Nat.le_of_ble_eq_true rfl, Nat.le_of_ble_eq_true rfl⟩ rfl rfl (Nat.le_of_ble_eq_true rfl) ⟨Nat.le_refl 0, Nat.le_refl 0⟩ (fun H locs hM => ?_)
  refine lv_aload_n C.1 C.2.1 (dd_at td_ifServed 7 rfl) rfl (lv_at hl 0 rfl) ?_
  refine lv_iload_n C.1 C.2.1 (dd_at td_ifServed 8 rfl) rfl (lv_at hl 1 rfl) ?_
  refine lv_aload_n C.1 C.2.1 (dd_at td_ifServed 9 rfl) rfl (lv_at hl 0 rfl) ?_
  refine mm_gI C hM 3 (dd_at td_ifServed 10 rfl) (by decide) (by decide) (by decide) ?_
  refine lv_iload_n C.1 C.2.1 (dd_at td_ifServed 11 rfl) rfl (lv_at hl 2 rfl) ?_
  refine lv_iadd C.1 C.2.1 (dd_at td_ifServed 12 rfl) ?_
  refine lv_iload C.1 C.2.1 (dd_at td_ifServed 13 rfl) (lv_at hl 4 rfl) ?_
  obtain ⟨r6, st4, hx5, hf⟩ := fc_of_bn hf
  refine mm_ci (As := [.int x1, .int ((mm_I st1 3) + x2), .int x4]) (rest := [.long r3]) (n := 3) C hM (c_worthOf l D o ad cs fu x1 ((mm_I st1 3) + x2) x4 st1) (List.mem_of_getElem? (i := 48) rfl) (dd_at td_ifServed 14 rfl) hx5 hl.1 hd_worthOf ⟨Nat.le_of_ble_eq_true rfl, Nat.le_of_ble_eq_true rfl⟩ rfl rfl (Nat.le_of_ble_eq_true rfl) ⟨Nat.le_refl 0, Nat.le_refl 0⟩ (fun H locs hM => ?_)
  refine lv_aload_n C.1 C.2.1 (dd_at td_ifServed 15 rfl) rfl (lv_at hl 0 rfl) ?_
  obtain ⟨r9, st7, hx8, hf⟩ := fc_of_bn hf
  refine mm_ci (As := []) (rest := [.int r6, .long r3]) (n := 0) C hM (c_keep l D o ad cs fu st4) (List.mem_of_getElem? (i := 26) rfl) (dd_at td_ifServed 16 rfl) hx8 hl.1 hd_keep ⟨Nat.le_of_ble_eq_true rfl, Nat.le_of_ble_eq_true rfl⟩ rfl rfl (Nat.le_of_ble_eq_true rfl) ⟨Nat.le_refl 0, Nat.le_refl 0⟩ (fun H locs hM => ?_)
  refine lv_iload C.1 C.2.1 (dd_at td_ifServed 17 rfl) (lv_at hl 4 rfl) ?_
  refine lv_iconst (v := (1 : Int32)) C.1 C.2.1 (dd_at td_ifServed 18 rfl) (by decide) ?_
  refine lv_isub C.1 C.2.1 (dd_at td_ifServed 19 rfl) ?_
  refine lv_imul C.1 C.2.1 (dd_at td_ifServed 20 rfl) ?_
  refine lv_isub C.1 C.2.1 (dd_at td_ifServed 21 rfl) ?_
  refine lv_i2l C.1 C.2.1 (dd_at td_ifServed 22 rfl) rfl ?_
  refine lv_lmul C.1 C.2.1 (dd_at td_ifServed 23 rfl) ?_
  refine lv_aload_n C.1 C.2.1 (dd_at td_ifServed 24 rfl) rfl (lv_at hl 0 rfl) ?_
  refine mm_gA C hM 26 (dd_at td_ifServed 25 rfl) (by decide) (by decide) (by decide) ?_
  refine lv_bipush (v := (10 : Int32)) C.1 C.2.1 (dd_at td_ifServed 26 rfl) (by decide) ?_
  refine lv_iload_n C.1 C.2.1 (dd_at td_ifServed 27 rfl) rfl (lv_at hl 2 rfl) ?_
  refine lv_imul C.1 C.2.1 (dd_at td_ifServed 28 rfl) ?_
  refine lv_bipush (v := (10 : Int32)) C.1 C.2.1 (dd_at td_ifServed 29 rfl) (by decide) ?_
  refine lv_iadd C.1 C.2.1 (dd_at td_ifServed 30 rfl) ?_
  refine lv_iload C.1 C.2.1 (dd_at td_ifServed 31 rfl) (lv_at hl 4 rfl) ?_
  refine lv_iadd C.1 C.2.1 (dd_at td_ifServed 32 rfl) ?_
  refine lv_iconst (v := (1 : Int32)) C.1 C.2.1 (dd_at td_ifServed 33 rfl) (by decide) ?_
  refine lv_isub C.1 C.2.1 (dd_at td_ifServed 34 rfl) ?_
  obtain ⟨g10, hf⟩ := fc_of_gd hf
  refine mm_lald C hM 26 (dd_at td_ifServed 35 rfl) (by decide) (by decide) (fc_of_ix g10) ?_
  refine lv_ladd C.1 C.2.1 (dd_at td_ifServed 36 rfl) ?_
  exact mm_rl C hM (dd_at td_ifServed 37 rfl) hf
theorem c_ifServed (l : Launch) (D : va_G) (o : Nat) (ad : Nat → Nat) (cs : ClassId × ClassId × ClassId) (fu : Nat) (x1 : Int32) (x2 : Int32) (x3 : Int32) (x4 : Int32) (st : mm_S) : mm_Ml l D o ad cs yX12_ifServed cX12_ifServed 5 (some .long) 4 104 [.int x1, .int x2, .int x3, .int x4] st (M_ifServed fu x1 x2 x3 x4 st) := by
  intro r st' hf
  refine mm_enter (cc := cX12_ifServed) (nL := 5) (ret := some .long) (by decide) rfl (Nat.le_of_ble_eq_true rfl) ?_
  intro p e s m args below meth c ls C hl hM
  exact w_ifServed C fu x1 x2 x3 x4 st hf hl hM

/-! ifSpared -/
def tb_ifSpared : List (Nat × Instr × Nat) := [(0, .aload_n 0, 1), (1, .iload_n 2, 1), (2, .iload_n 1, 1), (3, .isub, 1), (4, .iconst 1, 1), (5, .isub, 1), (6, .invokevirtual 295, 3), (9, .aload_n 0, 1), (10, .invokevirtual 289, 3), (13, .ineg, 1), (14, .iload_n 3, 1), (15, .imul, 1), (16, .i2l, 1), (17, .lmul, 1), (18, .aload_n 0, 1), (19, .getfield 90, 3), (22, .bipush 10, 2), (24, .iload_n 1, 1), (25, .imul, 1), (26, .bipush 10, 2), (28, .iadd, 1), (29, .iload_n 3, 1), (30, .iadd, 1), (31, .laload, 1), (32, .ladd, 1), (33, .lreturn, 1)]
theorem td_ifSpared : tb_ifSpared.all (fun q => decide (decode cX12_ifSpared q.1 = .ok (q.2.1, q.2.2))) = true := by decide +kernel
theorem hd_ifSpared : yX12_ifSpared.cls = RX12 ∧ yX12_ifSpared.cls ≠ "java/lang/invoke/MethodHandle" ∧ yX12_ifSpared.cls ≠ "java/lang/invoke/VarHandle" ∧ (parseMethodDescriptor yX12_ifSpared.desc).map (fun d => d.parameters.length) = some 3 := by decide +kernel
theorem w_ifSpared {p : Program} {l : Launch} {e : Env} {s : State} {m : MethodId} {args : Array Value} {below : List Frame} {meth : Method} {c : Code} {D : va_G} {o : Nat} {ad : Nat → Nat} {cs : ClassId × ClassId × ClassId} {r : Int64} {st' : mm_S} (C : mm_C p s m args meth c cX12_ifSpared 4 (some .long) D cs) (fu : Nat) (x1 : Int32) (x2 : Int32) (x3 : Int32) (st : mm_S) (hf : M_ifSpared fu x1 x2 x3 st = some (r, st')) {H : Heap} {locs : List Loc} {ls : Array Slot} (hl : lv_has ls 4 [(0, .ref o), (1, .int x1), (2, .int x2), (3, .int x3)]) (hM : mm_H D o ad cs s.heap st H locs) : W p l e (mm_R 2 42) s m args below meth c H locs 0 0 (MQ below (mm_Ql D o ad cs r st') args s 0 0 (mm_A o ad)) (F0 m 0 ls []) := by
  unfold M_ifSpared at hf
  refine lv_aload_n C.1 C.2.1 (dd_at td_ifSpared 0 rfl) rfl (lv_at hl 0 rfl) ?_
  refine lv_iload_n C.1 C.2.1 (dd_at td_ifSpared 1 rfl) rfl (lv_at hl 2 rfl) ?_
  refine lv_iload_n C.1 C.2.1 (dd_at td_ifSpared 2 rfl) rfl (lv_at hl 1 rfl) ?_
  refine lv_isub C.1 C.2.1 (dd_at td_ifSpared 3 rfl) ?_
  refine lv_iconst (v := (1 : Int32)) C.1 C.2.1 (dd_at td_ifSpared 4 rfl) (by decide) ?_
  refine lv_isub C.1 C.2.1 (dd_at td_ifSpared 5 rfl) ?_
  obtain ⟨r3, st1, hx2, hf⟩ := fc_of_bn hf
  refine mm_cl (As := [.int ((x2 - x1) - (1 : Int32))]) (rest := []) (n := 1) C hM (c_ways l D o ad cs fu ((x2 - x1) - (1 : Int32)) st) (List.mem_of_getElem? (i := 46) rfl) (dd_at td_ifSpared 6 rfl) hx2 hl.1 hd_ways ⟨Nat.le_of_ble_eq_true rfl, Nat.le_of_ble_eq_true rfl⟩ rfl rfl (Nat.le_of_ble_eq_true rfl) ⟨Nat.le_refl 0, Nat.le_refl 0⟩ (fun H locs hM => ?_)
  refine lv_aload_n C.1 C.2.1 (dd_at td_ifSpared 7 rfl) rfl (lv_at hl 0 rfl) ?_
  obtain ⟨r6, st4, hx5, hf⟩ := fc_of_bn hf
  refine mm_ci (As := []) (rest := [.long r3]) (n := 0) C hM (c_keep l D o ad cs fu st1) (List.mem_of_getElem? (i := 26) rfl) (dd_at td_ifSpared 8 rfl) hx5 hl.1 hd_keep ⟨Nat.le_of_ble_eq_true rfl, Nat.le_of_ble_eq_true rfl⟩ rfl rfl (Nat.le_of_ble_eq_true rfl) ⟨Nat.le_refl 0, Nat.le_refl 0⟩ (fun H locs hM => ?_)
  refine lv_ineg C.1 C.2.1 (dd_at td_ifSpared 9 rfl) ?_
  refine lv_iload_n C.1 C.2.1 (dd_at td_ifSpared 10 rfl) rfl (lv_at hl 3 rfl) ?_
  refine lv_imul C.1 C.2.1 (dd_at td_ifSpared 11 rfl) ?_
  refine lv_i2l C.1 C.2.1 (dd_at td_ifSpared 12 rfl) rfl ?_
  refine lv_lmul C.1 C.2.1 (dd_at td_ifSpared 13 rfl) ?_
  refine lv_aload_n C.1 C.2.1 (dd_at td_ifSpared 14 rfl) rfl (lv_at hl 0 rfl) ?_
  refine mm_gA C hM 26 (dd_at td_ifSpared 15 rfl) (by decide) (by decide) (by decide) ?_
  refine lv_bipush (v := (10 : Int32)) C.1 C.2.1 (dd_at td_ifSpared 16 rfl) (by decide) ?_
  refine lv_iload_n C.1 C.2.1 (dd_at td_ifSpared 17 rfl) rfl (lv_at hl 1 rfl) ?_
  refine lv_imul C.1 C.2.1 (dd_at td_ifSpared 18 rfl) ?_
  refine lv_bipush (v := (10 : Int32)) C.1 C.2.1 (dd_at td_ifSpared 19 rfl) (by decide) ?_
  refine lv_iadd C.1 C.2.1 (dd_at td_ifSpared 20 rfl) ?_
  refine lv_iload_n C.1 C.2.1 (dd_at td_ifSpared 21 rfl) rfl (lv_at hl 3 rfl) ?_
  refine lv_iadd C.1 C.2.1 (dd_at td_ifSpared 22 rfl) ?_
  obtain ⟨g7, hf⟩ := fc_of_gd hf
  refine mm_lald C hM 26 (dd_at td_ifSpared 23 rfl) (by decide) (by decide) (fc_of_ix g7) ?_
  refine lv_ladd C.1 C.2.1 (dd_at td_ifSpared 24 rfl) ?_
  exact mm_rl C hM (dd_at td_ifSpared 25 rfl) hf
theorem c_ifSpared (l : Launch) (D : va_G) (o : Nat) (ad : Nat → Nat) (cs : ClassId × ClassId × ClassId) (fu : Nat) (x1 : Int32) (x2 : Int32) (x3 : Int32) (st : mm_S) : mm_Ml l D o ad cs yX12_ifSpared cX12_ifSpared 4 (some .long) 2 42 [.int x1, .int x2, .int x3] st (M_ifSpared fu x1 x2 x3 st) := by
  intro r st' hf
  refine mm_enter (cc := cX12_ifSpared) (nL := 4) (ret := some .long) (by decide) rfl (Nat.le_of_ble_eq_true rfl) ?_
  intro p e s m args below meth c ls C hl hM
  exact w_ifSpared C fu x1 x2 x3 st hf hl hM

/-! gainOf -/
def tb_gainOf : List (Nat × Instr × Nat) := [(0, .aload_n 0, 1), (1, .iload_n 3, 1), (2, .iload 4, 2), (4, .iload 5, 2), (6, .invokevirtual 299, 3), (9, .lstore 6, 2), (11, .iload 5, 2), (13, .ifCond .ne 6, 3), (16, .lload 6, 2), (18, .lreturn, 1), (19, .aload_n 0, 1), (20, .iload_n 2, 1), (21, .iload_n 3, 1), (22, .iload 4, 2), (24, .iload 5, 2), (26, .invokevirtual 303, 3), (29, .lstore 8, 2), (31, .iload_n 1, 1), (32, .ifCond .ne 19, 3), (35, .lload 8, 2), (37, .lload 6, 2), (39, .lcmp, 1), (40, .ifCond .le 8, 3), (43, .lload 8, 2), (45, .goto 5, 3), (48, .lload 6, 2), (50, .lreturn, 1), (51, .iload_n 1, 1), (52, .iconst 1, 1), (53, .if_icmp .ne 27, 3), (56, .aload_n 0, 1), (57, .iload_n 2, 1), (58, .aload_n 0, 1), (59, .getfield 19, 3), (62, .iload_n 3, 1), (63, .iadd, 1), (64, .iload 5, 2), (66, .invokevirtual 282, 3), (69, .ifCond .le 7, 3), (72, .iconst 1, 1), (73, .goto 16, 3), (76, .iconst 0, 1), (77, .goto 12, 3), (80, .aload_n 0, 1), (81, .aload_n 0, 1), (82, .getfield 94, 3), (85, .iload_n 2, 1), (86, .invokevirtual 203, 3), (89, .istore 10, 2), (91, .iload 10, 2), (93, .ifCond .eq 8, 3), (96, .lload 8, 2), (98, .goto 5, 3), (101, .lload 6, 2), (103, .lreturn, 1)]
theorem td_gainOf : tb_gainOf.all (fun q => decide (decode cX12_gainOf q.1 = .ok (q.2.1, q.2.2))) = true := by decide +kernel
theorem hd_gainOf : yX12_gainOf.cls = RX12 ∧ yX12_gainOf.cls ≠ "java/lang/invoke/MethodHandle" ∧ yX12_gainOf.cls ≠ "java/lang/invoke/VarHandle" ∧ (parseMethodDescriptor yX12_gainOf.desc).map (fun d => d.parameters.length) = some 5 := by decide +kernel
theorem w_gainOf_b89 {p : Program} {l : Launch} {e : Env} {s : State} {m : MethodId} {args : Array Value} {below : List Frame} {meth : Method} {c : Code} {D : va_G} {o : Nat} {ad : Nat → Nat} {cs : ClassId × ClassId × ClassId} {r : Int64} {st' : mm_S} (C : mm_C p s m args meth c cX12_gainOf 11 (some .long) D cs) (fu : Nat) (x6 : Int64) (x8 : Int64) (s0 : Int32) (st : mm_S) (hf : M_gainOf_b89 fu x6 x8 s0 st = some (r, st')) {H : Heap} {locs : List Loc} {ls : Array Slot} (hl : lv_has ls 11 [(0, .ref o), (6, .long x6), (8, .long x8)]) (hM : mm_H D o ad cs s.heap st H locs) : W p l e (mm_R 5 128) s m args below meth c H locs 0 0 (MQ below (mm_Ql D o ad cs r st') args s 0 0 (mm_A o ad)) (F0 m 89 ls [.int s0]) := by
  unfold M_gainOf_b89 at hf
  refine lv_istore (lv' := [(10, .int s0), (0, .ref o), (6, .long x6), (8, .long x8)]) C.1 C.2.1 (dd_at td_gainOf 48 rfl) hl (by decide) rfl (fun ls hl => ?_)
  refine lv_iload C.1 C.2.1 (dd_at td_gainOf 49 rfl) (lv_at hl 0 rfl) ?_
  refine lv_if_eq (tgt := 101) C.1 C.2.1 (dd_at td_gainOf 50 rfl) (by decide) (fun c18 => ?_) (fun c18 => ?_)
  · replace hf := fc_of_t hf c18
    refine lv_lload C.1 C.2.1 (dd_at td_gainOf 53 rfl) (lv_at hl 2 rfl) ?_
    exact mm_rl C hM (dd_at td_gainOf 54 rfl) hf
  · replace hf := fc_of_f hf c18
    refine lv_lload C.1 C.2.1 (dd_at td_gainOf 51 rfl) (lv_at hl 3 rfl) ?_
    refine lv_goto (tgt := 103) C.1 C.2.1 (dd_at td_gainOf 52 rfl) (by decide) ?_
    exact mm_rl C hM (dd_at td_gainOf 54 rfl) hf
theorem w_gainOf {p : Program} {l : Launch} {e : Env} {s : State} {m : MethodId} {args : Array Value} {below : List Frame} {meth : Method} {c : Code} {D : va_G} {o : Nat} {ad : Nat → Nat} {cs : ClassId × ClassId × ClassId} {r : Int64} {st' : mm_S} (C : mm_C p s m args meth c cX12_gainOf 11 (some .long) D cs) (fu : Nat) (x1 : Int32) (x2 : Int32) (x3 : Int32) (x4 : Int32) (x5 : Int32) (st : mm_S) (hf : M_gainOf fu x1 x2 x3 x4 x5 st = some (r, st')) {H : Heap} {locs : List Loc} {ls : Array Slot} (hl : lv_has ls 11 [(0, .ref o), (1, .int x1), (2, .int x2), (3, .int x3), (4, .int x4), (5, .int x5)]) (hM : mm_H D o ad cs s.heap st H locs) : W p l e (mm_R 5 128) s m args below meth c H locs 0 0 (MQ below (mm_Ql D o ad cs r st') args s 0 0 (mm_A o ad)) (F0 m 0 ls []) := by
  unfold M_gainOf at hf
  refine lv_aload_n C.1 C.2.1 (dd_at td_gainOf 0 rfl) rfl (lv_at hl 0 rfl) ?_
  refine lv_iload_n C.1 C.2.1 (dd_at td_gainOf 1 rfl) rfl (lv_at hl 3 rfl) ?_
  refine lv_iload C.1 C.2.1 (dd_at td_gainOf 2 rfl) (lv_at hl 4 rfl) ?_
  refine lv_iload C.1 C.2.1 (dd_at td_gainOf 3 rfl) (lv_at hl 5 rfl) ?_
  obtain ⟨r3, st1, hx2, hf⟩ := fc_of_bn hf
  refine mm_cl (As := [.int x3, .int x4, .int x5]) (rest := []) (n := 3) C hM (c_ifSpared l D o ad cs fu x3 x4 x5 st) (List.mem_of_getElem? (i := 17) rfl) (dd_at td_gainOf 4 rfl) hx2 hl.1 hd_ifSpared ⟨Nat.le_of_ble_eq_true rfl, Nat.le_of_ble_eq_true rfl⟩ rfl rfl (Nat.le_of_ble_eq_true rfl) ⟨Nat.le_refl 0, Nat.le_refl 0⟩ (fun H locs hM => ?_)
  refine lv_lstore (lv' := [(6, .long r3), (0, .ref o), (1, .int x1), (2, .int x2), (3, .int x3), (4, .int x4), (5, .int x5)]) C.1 C.2.1 (dd_at td_gainOf 5 rfl) hl (by decide) rfl (fun ls hl => ?_)
  refine lv_iload C.1 C.2.1 (dd_at td_gainOf 6 rfl) (lv_at hl 6 rfl) ?_
  refine lv_if_ne (tgt := 19) C.1 C.2.1 (dd_at td_gainOf 7 rfl) (by decide) (fun c4 => ?_) (fun c4 => ?_)
  · replace hf := fc_of_f hf c4
    refine lv_aload_n C.1 C.2.1 (dd_at td_gainOf 10 rfl) rfl (lv_at hl 1 rfl) ?_
    refine lv_iload_n C.1 C.2.1 (dd_at td_gainOf 11 rfl) rfl (lv_at hl 3 rfl) ?_
    refine lv_iload_n C.1 C.2.1 (dd_at td_gainOf 12 rfl) rfl (lv_at hl 4 rfl) ?_
    refine lv_iload C.1 C.2.1 (dd_at td_gainOf 13 rfl) (lv_at hl 5 rfl) ?_
    refine lv_iload C.1 C.2.1 (dd_at td_gainOf 14 rfl) (lv_at hl 6 rfl) ?_
    obtain ⟨r7, st5, hx6, hf⟩ := fc_of_bn hf
    refine mm_cl (As := [.int x2, .int x3, .int x4, .int x5]) (rest := []) (n := 4) C hM (c_ifServed l D o ad cs fu x2 x3 x4 x5 st1) (List.mem_of_getElem? (i := 16) rfl) (dd_at td_gainOf 15 rfl) hx6 hl.1 hd_ifServed ⟨Nat.le_of_ble_eq_true rfl, Nat.le_of_ble_eq_true rfl⟩ rfl rfl (Nat.le_of_ble_eq_true rfl) ⟨Nat.le_refl 0, Nat.le_refl 0⟩ (fun H locs hM => ?_)
    refine lv_lstore (lv' := [(8, .long r7), (6, .long r3), (0, .ref o), (1, .int x1), (2, .int x2), (3, .int x3), (4, .int x4), (5, .int x5)]) C.1 C.2.1 (dd_at td_gainOf 16 rfl) hl (by decide) rfl (fun ls hl => ?_)
    refine lv_iload_n C.1 C.2.1 (dd_at td_gainOf 17 rfl) rfl (lv_at hl 3 rfl) ?_
    refine lv_if_ne (tgt := 51) C.1 C.2.1 (dd_at td_gainOf 18 rfl) (by decide) (fun c8 => ?_) (fun c8 => ?_)
    · replace hf := fc_of_f hf c8
      refine lv_iload_n C.1 C.2.1 (dd_at td_gainOf 27 rfl) rfl (lv_at hl 3 rfl) ?_
      refine lv_iconst (v := (1 : Int32)) C.1 C.2.1 (dd_at td_gainOf 28 rfl) (by decide) ?_
      refine lv_icmp_ne (tgt := 80) C.1 C.2.1 (dd_at td_gainOf 29 rfl) (by decide) (fun c9 => ?_) (fun c9 => ?_)
      · replace hf := fc_of_f hf c9
        refine lv_aload_n C.1 C.2.1 (dd_at td_gainOf 43 rfl) rfl (lv_at hl 2 rfl) ?_
        refine lv_aload_n C.1 C.2.1 (dd_at td_gainOf 44 rfl) rfl (lv_at hl 2 rfl) ?_
        refine mm_gI C hM 27 (dd_at td_gainOf 45 rfl) (by decide) (by decide) (by decide) ?_
        refine lv_iload_n C.1 C.2.1 (dd_at td_gainOf 46 rfl) rfl (lv_at hl 4 rfl) ?_
        obtain ⟨r12, st10, hx11, hf⟩ := fc_of_bn hf
        refine mm_ci (As := [.int (mm_I st5 27), .int x2]) (rest := []) (n := 2) C hM (c_has l D o ad cs fu (mm_I st5 27) x2 st5) (List.mem_of_getElem? (i := 13) rfl) (dd_at td_gainOf 47 rfl) hx11 hl.1 hd_has ⟨Nat.le_of_ble_eq_true rfl, Nat.le_of_ble_eq_true rfl⟩ rfl rfl (Nat.le_of_ble_eq_true rfl) ⟨Nat.le_refl 0, Nat.le_refl 0⟩ (fun H locs hM => ?_)
        exact w_gainOf_b89 C fu r3 r7 r12 st10 hf (lv_sub hl [2, 1, 0] rfl) hM
      · replace hf := fc_of_t hf c9
        refine lv_aload_n C.1 C.2.1 (dd_at td_gainOf 30 rfl) rfl (lv_at hl 2 rfl) ?_
        refine lv_iload_n C.1 C.2.1 (dd_at td_gainOf 31 rfl) rfl (lv_at hl 4 rfl) ?_
        refine lv_aload_n C.1 C.2.1 (dd_at td_gainOf 32 rfl) rfl (lv_at hl 2 rfl) ?_
        refine mm_gI C hM 3 (dd_at td_gainOf 33 rfl) (by decide) (by decide) (by decide) ?_
        refine lv_iload_n C.1 C.2.1 (dd_at td_gainOf 34 rfl) rfl (lv_at hl 5 rfl) ?_
        refine lv_iadd C.1 C.2.1 (dd_at td_gainOf 35 rfl) ?_
        refine lv_iload C.1 C.2.1 (dd_at td_gainOf 36 rfl) (lv_at hl 7 rfl) ?_
        obtain ⟨r15, st13, hx14, hf⟩ := fc_of_bn hf
        refine mm_ci (As := [.int x2, .int ((mm_I st5 3) + x3), .int x5]) (rest := []) (n := 3) C hM (c_worthOf l D o ad cs fu x2 ((mm_I st5 3) + x3) x5 st5) (List.mem_of_getElem? (i := 48) rfl) (dd_at td_gainOf 37 rfl) hx14 hl.1 hd_worthOf ⟨Nat.le_of_ble_eq_true rfl, Nat.le_of_ble_eq_true rfl⟩ rfl rfl (Nat.le_of_ble_eq_true rfl) ⟨Nat.le_refl 0, Nat.le_refl 0⟩ (fun H locs hM => ?_)
        refine lv_if_le (tgt := 76) C.1 C.2.1 (dd_at td_gainOf 38 rfl) (by decide) (fun c16 => ?_) (fun c16 => ?_)
        · replace hf := fc_of_t hf c16
          refine lv_iconst (v := (0 : Int32)) C.1 C.2.1 (dd_at td_gainOf 41 rfl) (by decide) ?_
          refine lv_goto (tgt := 89) C.1 C.2.1 (dd_at td_gainOf 42 rfl) (by decide) ?_
          exact w_gainOf_b89 C fu r3 r7 (0 : Int32) st13 hf (lv_sub hl [2, 1, 0] rfl) hM
        · replace hf := fc_of_f hf c16
          refine lv_iconst (v := (1 : Int32)) C.1 C.2.1 (dd_at td_gainOf 39 rfl) (by decide) ?_
          refine lv_goto (tgt := 89) C.1 C.2.1 (dd_at td_gainOf 40 rfl) (by decide) ?_
          exact w_gainOf_b89 C fu r3 r7 (1 : Int32) st13 hf (lv_sub hl [2, 1, 0] rfl) hM
    · replace hf := fc_of_t hf c8
      refine lv_lload C.1 C.2.1 (dd_at td_gainOf 19 rfl) (lv_at hl 0 rfl) ?_
      refine lv_lload C.1 C.2.1 (dd_at td_gainOf 20 rfl) (lv_at hl 1 rfl) ?_
      refine W.lcmp C.1 C.2.1 (dd_at td_gainOf 21 rfl) ?_
      refine lv_if_le (tgt := 48) C.1 C.2.1 (dd_at td_gainOf 22 rfl) (by decide) (fun c17 => ?_) (fun c17 => ?_)
      · replace hf := fc_of_t hf c17
        refine lv_lload C.1 C.2.1 (dd_at td_gainOf 25 rfl) (lv_at hl 1 rfl) ?_
        exact mm_rl C hM (dd_at td_gainOf 26 rfl) hf
      · replace hf := fc_of_f hf c17
        refine lv_lload C.1 C.2.1 (dd_at td_gainOf 23 rfl) (lv_at hl 0 rfl) ?_
        refine lv_goto (tgt := 50) C.1 C.2.1 (dd_at td_gainOf 24 rfl) (by decide) ?_
        exact mm_rl C hM (dd_at td_gainOf 26 rfl) hf
  · replace hf := fc_of_t hf c4
    refine lv_lload C.1 C.2.1 (dd_at td_gainOf 8 rfl) (lv_at hl 0 rfl) ?_
    exact mm_rl C hM (dd_at td_gainOf 9 rfl) hf
theorem c_gainOf (l : Launch) (D : va_G) (o : Nat) (ad : Nat → Nat) (cs : ClassId × ClassId × ClassId) (fu : Nat) (x1 : Int32) (x2 : Int32) (x3 : Int32) (x4 : Int32) (x5 : Int32) (st : mm_S) : mm_Ml l D o ad cs yX12_gainOf cX12_gainOf 11 (some .long) 5 128 [.int x1, .int x2, .int x3, .int x4, .int x5] st (M_gainOf fu x1 x2 x3 x4 x5 st) := by
  intro r st' hf
  refine mm_enter (cc := cX12_gainOf) (nL := 11) (ret := some .long) (by decide) rfl (Nat.le_of_ble_eq_true rfl) ?_
  intro p e s m args below meth c ls C hl hM
  exact w_gainOf C fu x1 x2 x3 x4 x5 st hf hl hM

/-! layGains -/
def tb_layGains : List (Nat × Instr × Nat) := [(0, .iconst 0, 1), (1, .istore_n 3, 1), (2, .iload_n 3, 1), (3, .bipush 9, 2), (5, .if_icmp .ge 21, 3), (8, .aload_n 0, 1), (9, .getfield 90, 3), (12, .bipush 10, 2), (14, .iload_n 2, 1), (15, .imul, 1), (16, .iload_n 3, 1), (17, .iadd, 1), (18, .lconst 0, 1), (19, .lastore, 1), (20, .iinc 3 1, 3), (23, .goto (-21), 3), (26, .iload_n 2, 1), (27, .iconst 1, 1), (28, .isub, 1), (29, .istore_n 3, 1), (30, .iload_n 3, 1), (31, .ifCond .lt 76, 3), (34, .iconst 0, 1), (35, .istore 4, 2), (37, .iload 4, 2), (39, .bipush 9, 2), (41, .if_icmp .ge 60, 3), (44, .lconst 0, 1), (45, .lstore 5, 2), (47, .iconst 0, 1), (48, .istore 7, 2), (50, .iload 7, 2), (52, .aload_n 0, 1), (53, .getfield 7, 3), (56, .if_icmp .ge 25, 3), (59, .lload 5, 2), (61, .aload_n 0, 1), (62, .iload_n 1, 1), (63, .iload 7, 2), (65, .iload_n 3, 1), (66, .iload_n 2, 1), (67, .iload 4, 2), (69, .invokevirtual 307, 3), (72, .ladd, 1), (73, .lstore 5, 2), (75, .iinc 7 1, 3), (78, .goto (-28), 3), (81, .aload_n 0, 1), (82, .getfield 90, 3), (85, .bipush 10, 2), (87, .iload_n 3, 1), (88, .imul, 1), (89, .iload 4, 2), (91, .iadd, 1), (92, .lload 5, 2), (94, .lastore, 1), (95, .iinc 4 1, 3), (98, .goto (-61), 3), (101, .iinc 3 (-1), 3), (104, .goto (-74), 3), (107, .return_, 1)]
theorem td_layGains : tb_layGains.all (fun q => decide (decode cX12_layGains q.1 = .ok (q.2.1, q.2.2))) = true := by decide +kernel
theorem hd_layGains : yX12_layGains.cls = RX12 ∧ yX12_layGains.cls ≠ "java/lang/invoke/MethodHandle" ∧ yX12_layGains.cls ≠ "java/lang/invoke/VarHandle" ∧ (parseMethodDescriptor yX12_layGains.desc).map (fun d => d.parameters.length) = some 2 := by decide +kernel
theorem w_layGains_b50F {p : Program} {l : Launch} {e : Env} {s : State} {m : MethodId} {args : Array Value} {below : List Frame} {meth : Method} {c : Code} {D : va_G} {o : Nat} {ad : Nat → Nat} {cs : ClassId × ClassId × ClassId} {st' : mm_S} (C : mm_C p s m args meth c cX12_layGains 8 (none) D cs) (fu : Nat) (K30 : Int32 → Int32 → Int32 → mm_S → Option mm_S) (hK30 : ∀ (x1 : Int32) (x2 : Int32) (x3 : Int32) (st : mm_S) (H : Heap) (locs : List Loc) (ls : Array Slot), K30 x1 x2 x3 st = some st' → lv_has ls 8 [(0, .ref o), (1, .int x1), (2, .int x2), (3, .int x3)] → mm_H D o ad cs s.heap st H locs → W p l e (mm_R 6 158) s m args below meth c H locs 0 0 (MQ below (mm_Qv D o ad cs st') args s 0 0 (mm_A o ad)) (F0 m 30 ls [])) (K37 : Int32 → Int32 → Int32 → Int32 → mm_S → Option mm_S) (hK37 : ∀ (x1 : Int32) (x2 : Int32) (x3 : Int32) (x4 : Int32) (st : mm_S) (H : Heap) (locs : List Loc) (ls : Array Slot), K37 x1 x2 x3 x4 st = some st' → lv_has ls 8 [(0, .ref o), (1, .int x1), (2, .int x2), (3, .int x3), (4, .int x4)] → mm_H D o ad cs s.heap st H locs → W p l e (mm_R 6 158) s m args below meth c H locs 0 0 (MQ below (mm_Qv D o ad cs st') args s 0 0 (mm_A o ad)) (F0 m 37 ls [])) (K50 : Int32 → Int32 → Int32 → Int32 → Int64 → Int32 → mm_S → Option mm_S) (hK50 : ∀ (x1 : Int32) (x2 : Int32) (x3 : Int32) (x4 : Int32) (x5 : Int64) (x7 : Int32) (st : mm_S) (H : Heap) (locs : List Loc) (ls : Array Slot), K50 x1 x2 x3 x4 x5 x7 st = some st' → lv_has ls 8 [(0, .ref o), (1, .int x1), (2, .int x2), (3, .int x3), (4, .int x4), (5, .long x5), (7, .int x7)] → mm_H D o ad cs s.heap st H locs → W p l e (mm_R 6 158) s m args below meth c H locs 0 0 (MQ below (mm_Qv D o ad cs st') args s 0 0 (mm_A o ad)) (F0 m 50 ls [])) (x1 : Int32) (x2 : Int32) (x3 : Int32) (x4 : Int32) (x5 : Int64) (x7 : Int32) (st : mm_S) (hf : M_layGains_b50F fu K30 K37 K50 x1 x2 x3 x4 x5 x7 st = some st') {H : Heap} {locs : List Loc} {ls : Array Slot} (hl : lv_has ls 8 [(0, .ref o), (1, .int x1), (2, .int x2), (3, .int x3), (4, .int x4), (5, .long x5), (7, .int x7)]) (hM : mm_H D o ad cs s.heap st H locs) : W p l e (mm_R 6 158) s m args below meth c H locs 0 0 (MQ below (mm_Qv D o ad cs st') args s 0 0 (mm_A o ad)) (F0 m 50 ls []) := by
  unfold M_layGains_b50F at hf
  refine lv_iload C.1 C.2.1 (dd_at td_layGains 31 rfl) (lv_at hl 6 rfl) ?_
  refine lv_aload_n C.1 C.2.1 (dd_at td_layGains 32 rfl) rfl (lv_at hl 0 rfl) ?_
  refine mm_gI C hM 0 (dd_at td_layGains 33 rfl) (by decide) (by decide) (by decide) ?_
  refine lv_icmp_ge (tgt := 81) C.1 C.2.1 (dd_at td_layGains 34 rfl) (by decide) (fun c9 => ?_) (fun c9 => ?_)
  · replace hf := fc_of_t hf c9
    refine lv_aload_n C.1 C.2.1 (dd_at td_layGains 47 rfl) rfl (lv_at hl 0 rfl) ?_
    refine mm_gA C hM 26 (dd_at td_layGains 48 rfl) (by decide) (by decide) (by decide) ?_
    refine lv_bipush (v := (10 : Int32)) C.1 C.2.1 (dd_at td_layGains 49 rfl) (by decide) ?_
    refine lv_iload_n C.1 C.2.1 (dd_at td_layGains 50 rfl) rfl (lv_at hl 3 rfl) ?_
    refine lv_imul C.1 C.2.1 (dd_at td_layGains 51 rfl) ?_
    refine lv_iload C.1 C.2.1 (dd_at td_layGains 52 rfl) (lv_at hl 4 rfl) ?_
    refine lv_iadd C.1 C.2.1 (dd_at td_layGains 53 rfl) ?_
    refine lv_lload C.1 C.2.1 (dd_at td_layGains 54 rfl) (lv_at hl 5 rfl) ?_
    obtain ⟨g10, hf⟩ := fc_of_gd hf
    refine mm_last C hM 26 (dd_at td_layGains 55 rfl) (by decide) (by decide) (fc_of_ix g10) (fun st11 H locs est11 hM => ?_)
    replace hf := fc_of_nm hf st11 est11
    obtain ⟨v12, ev12⟩ : ∃ y : Int32, y = x4 + (1 : Int32) := ⟨_, rfl⟩
    replace hf := fc_of_nm hf v12 ev12
    refine lv_iinc (v := v12) (lv' := [(4, .int v12), (0, .ref o), (1, .int x1), (2, .int x2), (3, .int x3), (5, .long x5), (7, .int x7)]) C.1 C.2.1 (dd_at td_layGains 56 rfl) hl (k := 4) rfl (by rw [ev12]; rfl) (by decide) rfl (fun ls hl => ?_)
    refine lv_goto (tgt := 37) C.1 C.2.1 (dd_at td_layGains 57 rfl) (by decide) ?_
    exact hK37 x1 x2 x3 v12 st11 _ _ _ hf (lv_sub hl [1, 2, 3, 4, 0] rfl) hM
  · replace hf := fc_of_f hf c9
    refine lv_lload C.1 C.2.1 (dd_at td_layGains 35 rfl) (lv_at hl 5 rfl) ?_
    refine lv_aload_n C.1 C.2.1 (dd_at td_layGains 36 rfl) rfl (lv_at hl 0 rfl) ?_
    refine lv_iload_n C.1 C.2.1 (dd_at td_layGains 37 rfl) rfl (lv_at hl 1 rfl) ?_
    refine lv_iload C.1 C.2.1 (dd_at td_layGains 38 rfl) (lv_at hl 6 rfl) ?_
    refine lv_iload_n C.1 C.2.1 (dd_at td_layGains 39 rfl) rfl (lv_at hl 3 rfl) ?_
    refine lv_iload_n C.1 C.2.1 (dd_at td_layGains 40 rfl) rfl (lv_at hl 2 rfl) ?_
    refine lv_iload C.1 C.2.1 (dd_at td_layGains 41 rfl) (lv_at hl 4 rfl) ?_
    obtain ⟨r15, st13, hx14, hf⟩ := fc_of_bn hf
    refine mm_cl (As := [.int x1, .int x7, .int x3, .int x2, .int x4]) (rest := [.long x5]) (n := 5) C hM (c_gainOf l D o ad cs fu x1 x7 x3 x2 x4 st) (List.mem_of_getElem? (i := 11) rfl) (dd_at td_layGains 42 rfl) hx14 hl.1 hd_gainOf ⟨Nat.le_of_ble_eq_true rfl, Nat.le_of_ble_eq_true rfl⟩ rfl rfl (Nat.le_of_ble_eq_true rfl) ⟨Nat.le_refl 0, Nat.le_refl 0⟩ (fun H locs hM => ?_)
    refine lv_ladd C.1 C.2.1 (dd_at td_layGains 43 rfl) ?_
    refine lv_topl (fun v16 ev16 => ?_)
    replace hf := fc_of_nm hf v16 ev16
    refine lv_lstore (lv' := [(5, .long v16), (0, .ref o), (1, .int x1), (2, .int x2), (3, .int x3), (4, .int x4), (7, .int x7)]) C.1 C.2.1 (dd_at td_layGains 44 rfl) hl (by decide) rfl (fun ls hl => ?_)
    obtain ⟨v17, ev17⟩ : ∃ y : Int32, y = x7 + (1 : Int32) := ⟨_, rfl⟩
    replace hf := fc_of_nm hf v17 ev17
    refine lv_iinc (v := v17) (lv' := [(7, .int v17), (5, .long v16), (0, .ref o), (1, .int x1), (2, .int x2), (3, .int x3), (4, .int x4)]) C.1 C.2.1 (dd_at td_layGains 45 rfl) hl (k := 6) rfl (by rw [ev17]; rfl) (by decide) rfl (fun ls hl => ?_)
    refine lv_goto (tgt := 50) C.1 C.2.1 (dd_at td_layGains 46 rfl) (by decide) ?_
    exact hK50 x1 x2 x3 x4 v16 v17 st13 _ _ _ hf (lv_sub hl [2, 3, 4, 5, 6, 1, 0] rfl) hM
theorem w_layGains_b50 {p : Program} {l : Launch} {e : Env} {s : State} {m : MethodId} {args : Array Value} {below : List Frame} {meth : Method} {c : Code} {D : va_G} {o : Nat} {ad : Nat → Nat} {cs : ClassId × ClassId × ClassId} {st' : mm_S} (C : mm_C p s m args meth c cX12_layGains 8 (none) D cs) (fu : Nat) (K30 : Int32 → Int32 → Int32 → mm_S → Option mm_S) (hK30 : ∀ (x1 : Int32) (x2 : Int32) (x3 : Int32) (st : mm_S) (H : Heap) (locs : List Loc) (ls : Array Slot), K30 x1 x2 x3 st = some st' → lv_has ls 8 [(0, .ref o), (1, .int x1), (2, .int x2), (3, .int x3)] → mm_H D o ad cs s.heap st H locs → W p l e (mm_R 6 158) s m args below meth c H locs 0 0 (MQ below (mm_Qv D o ad cs st') args s 0 0 (mm_A o ad)) (F0 m 30 ls [])) (K37 : Int32 → Int32 → Int32 → Int32 → mm_S → Option mm_S) (hK37 : ∀ (x1 : Int32) (x2 : Int32) (x3 : Int32) (x4 : Int32) (st : mm_S) (H : Heap) (locs : List Loc) (ls : Array Slot), K37 x1 x2 x3 x4 st = some st' → lv_has ls 8 [(0, .ref o), (1, .int x1), (2, .int x2), (3, .int x3), (4, .int x4)] → mm_H D o ad cs s.heap st H locs → W p l e (mm_R 6 158) s m args below meth c H locs 0 0 (MQ below (mm_Qv D o ad cs st') args s 0 0 (mm_A o ad)) (F0 m 37 ls [])) (n : Nat) : ∀ (x1 : Int32) (x2 : Int32) (x3 : Int32) (x4 : Int32) (x5 : Int64) (x7 : Int32) (st : mm_S), M_layGains_b50 fu K30 K37 n x1 x2 x3 x4 x5 x7 st = some st' → ∀ (H : Heap) (locs : List Loc) (ls : Array Slot), lv_has ls 8 [(0, .ref o), (1, .int x1), (2, .int x2), (3, .int x3), (4, .int x4), (5, .long x5), (7, .int x7)] → mm_H D o ad cs s.heap st H locs → W p l e (mm_R 6 158) s m args below meth c H locs 0 0 (MQ below (mm_Qv D o ad cs st') args s 0 0 (mm_A o ad)) (F0 m 50 ls []) := by
  induction n with
  | zero => exact fun _ _ _ _ _ _ _ hf => fc_no hf
  | succ n ih =>
    intro x1 x2 x3 x4 x5 x7 st hf H locs ls hl hM
    exact w_layGains_b50F C fu K30 hK30 K37 hK37 (fun x1 x2 x3 x4 x5 x7 st => M_layGains_b50 fu K30 K37 n x1 x2 x3 x4 x5 x7 st) (fun x1 x2 x3 x4 x5 x7 st H locs ls hf hl hM => ih x1 x2 x3 x4 x5 x7 st hf H locs ls hl hM) x1 x2 x3 x4 x5 x7 st hf hl hM
theorem w_layGains_b37F {p : Program} {l : Launch} {e : Env} {s : State} {m : MethodId} {args : Array Value} {below : List Frame} {meth : Method} {c : Code} {D : va_G} {o : Nat} {ad : Nat → Nat} {cs : ClassId × ClassId × ClassId} {st' : mm_S} (C : mm_C p s m args meth c cX12_layGains 8 (none) D cs) (fu : Nat) (K30 : Int32 → Int32 → Int32 → mm_S → Option mm_S) (hK30 : ∀ (x1 : Int32) (x2 : Int32) (x3 : Int32) (st : mm_S) (H : Heap) (locs : List Loc) (ls : Array Slot), K30 x1 x2 x3 st = some st' → lv_has ls 8 [(0, .ref o), (1, .int x1), (2, .int x2), (3, .int x3)] → mm_H D o ad cs s.heap st H locs → W p l e (mm_R 6 158) s m args below meth c H locs 0 0 (MQ below (mm_Qv D o ad cs st') args s 0 0 (mm_A o ad)) (F0 m 30 ls [])) (K37 : Int32 → Int32 → Int32 → Int32 → mm_S → Option mm_S) (hK37 : ∀ (x1 : Int32) (x2 : Int32) (x3 : Int32) (x4 : Int32) (st : mm_S) (H : Heap) (locs : List Loc) (ls : Array Slot), K37 x1 x2 x3 x4 st = some st' → lv_has ls 8 [(0, .ref o), (1, .int x1), (2, .int x2), (3, .int x3), (4, .int x4)] → mm_H D o ad cs s.heap st H locs → W p l e (mm_R 6 158) s m args below meth c H locs 0 0 (MQ below (mm_Qv D o ad cs st') args s 0 0 (mm_A o ad)) (F0 m 37 ls [])) (x1 : Int32) (x2 : Int32) (x3 : Int32) (x4 : Int32) (st : mm_S) (hf : M_layGains_b37F fu K30 K37 x1 x2 x3 x4 st = some st') {H : Heap} {locs : List Loc} {ls : Array Slot} (hl : lv_has ls 8 [(0, .ref o), (1, .int x1), (2, .int x2), (3, .int x3), (4, .int x4)]) (hM : mm_H D o ad cs s.heap st H locs) : W p l e (mm_R 6 158) s m args below meth c H locs 0 0 (MQ below (mm_Qv D o ad cs st') args s 0 0 (mm_A o ad)) (F0 m 37 ls []) := by
  unfold M_layGains_b37F at hf
  refine lv_iload C.1 C.2.1 (dd_at td_layGains 24 rfl) (lv_at hl 4 rfl) ?_
  refine lv_bipush (v := (9 : Int32)) C.1 C.2.1 (dd_at td_layGains 25 rfl) (by decide) ?_
  refine lv_icmp_ge (tgt := 101) C.1 C.2.1 (dd_at td_layGains 26 rfl) (by decide) (fun c7 => ?_) (fun c7 => ?_)
  · replace hf := fc_of_t hf c7
    obtain ⟨v8, ev8⟩ : ∃ y : Int32, y = x3 + (-1 : Int32) := ⟨_, rfl⟩
    replace hf := fc_of_nm hf v8 ev8
    refine lv_iinc (v := v8) (lv' := [(3, .int v8), (0, .ref o), (1, .int x1), (2, .int x2), (4, .int x4)]) C.1 C.2.1 (dd_at td_layGains 58 rfl) hl (k := 3) rfl (by rw [ev8]; rfl) (by decide) rfl (fun ls hl => ?_)
    refine lv_goto (tgt := 30) C.1 C.2.1 (dd_at td_layGains 59 rfl) (by decide) ?_
    exact hK30 x1 x2 v8 st _ _ _ hf (lv_sub hl [1, 2, 3, 0] rfl) hM
  · replace hf := fc_of_f hf c7
    refine lv_lconst (v := (0 : Int64)) C.1 C.2.1 (dd_at td_layGains 27 rfl) (by decide) ?_
    refine lv_lstore (lv' := [(5, .long (0 : Int64)), (0, .ref o), (1, .int x1), (2, .int x2), (3, .int x3), (4, .int x4)]) C.1 C.2.1 (dd_at td_layGains 28 rfl) hl (by decide) rfl (fun ls hl => ?_)
    refine lv_iconst (v := (0 : Int32)) C.1 C.2.1 (dd_at td_layGains 29 rfl) (by decide) ?_
    refine lv_istore (lv' := [(7, .int (0 : Int32)), (5, .long (0 : Int64)), (0, .ref o), (1, .int x1), (2, .int x2), (3, .int x3), (4, .int x4)]) C.1 C.2.1 (dd_at td_layGains 30 rfl) hl (by decide) rfl (fun ls hl => ?_)
    exact w_layGains_b50 C fu K30 hK30 K37 hK37 fu x1 x2 x3 x4 (0 : Int64) (0 : Int32) st hf _ _ _ (lv_sub hl [2, 3, 4, 5, 6, 1, 0] rfl) hM
theorem w_layGains_b37 {p : Program} {l : Launch} {e : Env} {s : State} {m : MethodId} {args : Array Value} {below : List Frame} {meth : Method} {c : Code} {D : va_G} {o : Nat} {ad : Nat → Nat} {cs : ClassId × ClassId × ClassId} {st' : mm_S} (C : mm_C p s m args meth c cX12_layGains 8 (none) D cs) (fu : Nat) (K30 : Int32 → Int32 → Int32 → mm_S → Option mm_S) (hK30 : ∀ (x1 : Int32) (x2 : Int32) (x3 : Int32) (st : mm_S) (H : Heap) (locs : List Loc) (ls : Array Slot), K30 x1 x2 x3 st = some st' → lv_has ls 8 [(0, .ref o), (1, .int x1), (2, .int x2), (3, .int x3)] → mm_H D o ad cs s.heap st H locs → W p l e (mm_R 6 158) s m args below meth c H locs 0 0 (MQ below (mm_Qv D o ad cs st') args s 0 0 (mm_A o ad)) (F0 m 30 ls [])) (n : Nat) : ∀ (x1 : Int32) (x2 : Int32) (x3 : Int32) (x4 : Int32) (st : mm_S), M_layGains_b37 fu K30 n x1 x2 x3 x4 st = some st' → ∀ (H : Heap) (locs : List Loc) (ls : Array Slot), lv_has ls 8 [(0, .ref o), (1, .int x1), (2, .int x2), (3, .int x3), (4, .int x4)] → mm_H D o ad cs s.heap st H locs → W p l e (mm_R 6 158) s m args below meth c H locs 0 0 (MQ below (mm_Qv D o ad cs st') args s 0 0 (mm_A o ad)) (F0 m 37 ls []) := by
  induction n with
  | zero => exact fun _ _ _ _ _ hf => fc_no hf
  | succ n ih =>
    intro x1 x2 x3 x4 st hf H locs ls hl hM
    exact w_layGains_b37F C fu K30 hK30 (fun x1 x2 x3 x4 st => M_layGains_b37 fu K30 n x1 x2 x3 x4 st) (fun x1 x2 x3 x4 st H locs ls hf hl hM => ih x1 x2 x3 x4 st hf H locs ls hl hM) x1 x2 x3 x4 st hf hl hM
theorem w_layGains_b30F {p : Program} {l : Launch} {e : Env} {s : State} {m : MethodId} {args : Array Value} {below : List Frame} {meth : Method} {c : Code} {D : va_G} {o : Nat} {ad : Nat → Nat} {cs : ClassId × ClassId × ClassId} {st' : mm_S} (C : mm_C p s m args meth c cX12_layGains 8 (none) D cs) (fu : Nat) (K30 : Int32 → Int32 → Int32 → mm_S → Option mm_S) (hK30 : ∀ (x1 : Int32) (x2 : Int32) (x3 : Int32) (st : mm_S) (H : Heap) (locs : List Loc) (ls : Array Slot), K30 x1 x2 x3 st = some st' → lv_has ls 8 [(0, .ref o), (1, .int x1), (2, .int x2), (3, .int x3)] → mm_H D o ad cs s.heap st H locs → W p l e (mm_R 6 158) s m args below meth c H locs 0 0 (MQ below (mm_Qv D o ad cs st') args s 0 0 (mm_A o ad)) (F0 m 30 ls [])) (x1 : Int32) (x2 : Int32) (x3 : Int32) (st : mm_S) (hf : M_layGains_b30F fu K30 x1 x2 x3 st = some st') {H : Heap} {locs : List Loc} {ls : Array Slot} (hl : lv_has ls 8 [(0, .ref o), (1, .int x1), (2, .int x2), (3, .int x3)]) (hM : mm_H D o ad cs s.heap st H locs) : W p l e (mm_R 6 158) s m args below meth c H locs 0 0 (MQ below (mm_Qv D o ad cs st') args s 0 0 (mm_A o ad)) (F0 m 30 ls []) := by
  unfold M_layGains_b30F at hf
  refine lv_iload_n C.1 C.2.1 (dd_at td_layGains 20 rfl) rfl (lv_at hl 3 rfl) ?_
  refine lv_if_lt (tgt := 107) C.1 C.2.1 (dd_at td_layGains 21 rfl) (by decide) (fun c6 => ?_) (fun c6 => ?_)
  · replace hf := fc_of_t hf c6
    exact mm_rv C hM (dd_at td_layGains 60 rfl) hf
  · replace hf := fc_of_f hf c6
    refine lv_iconst (v := (0 : Int32)) C.1 C.2.1 (dd_at td_layGains 22 rfl) (by decide) ?_
    refine lv_istore (lv' := [(4, .int (0 : Int32)), (0, .ref o), (1, .int x1), (2, .int x2), (3, .int x3)]) C.1 C.2.1 (dd_at td_layGains 23 rfl) hl (by decide) rfl (fun ls hl => ?_)
    exact w_layGains_b37 C fu K30 hK30 fu x1 x2 x3 (0 : Int32) st hf _ _ _ (lv_sub hl [1, 2, 3, 4, 0] rfl) hM
theorem w_layGains_b30 {p : Program} {l : Launch} {e : Env} {s : State} {m : MethodId} {args : Array Value} {below : List Frame} {meth : Method} {c : Code} {D : va_G} {o : Nat} {ad : Nat → Nat} {cs : ClassId × ClassId × ClassId} {st' : mm_S} (C : mm_C p s m args meth c cX12_layGains 8 (none) D cs) (fu : Nat) (n : Nat) : ∀ (x1 : Int32) (x2 : Int32) (x3 : Int32) (st : mm_S), M_layGains_b30 fu n x1 x2 x3 st = some st' → ∀ (H : Heap) (locs : List Loc) (ls : Array Slot), lv_has ls 8 [(0, .ref o), (1, .int x1), (2, .int x2), (3, .int x3)] → mm_H D o ad cs s.heap st H locs → W p l e (mm_R 6 158) s m args below meth c H locs 0 0 (MQ below (mm_Qv D o ad cs st') args s 0 0 (mm_A o ad)) (F0 m 30 ls []) := by
  induction n with
  | zero => exact fun _ _ _ _ hf => fc_no hf
  | succ n ih =>
    intro x1 x2 x3 st hf H locs ls hl hM
    exact w_layGains_b30F C fu (fun x1 x2 x3 st => M_layGains_b30 fu n x1 x2 x3 st) (fun x1 x2 x3 st H locs ls hf hl hM => ih x1 x2 x3 st hf H locs ls hl hM) x1 x2 x3 st hf hl hM
theorem w_layGains_b2F {p : Program} {l : Launch} {e : Env} {s : State} {m : MethodId} {args : Array Value} {below : List Frame} {meth : Method} {c : Code} {D : va_G} {o : Nat} {ad : Nat → Nat} {cs : ClassId × ClassId × ClassId} {st' : mm_S} (C : mm_C p s m args meth c cX12_layGains 8 (none) D cs) (fu : Nat) (K2 : Int32 → Int32 → Int32 → mm_S → Option mm_S) (hK2 : ∀ (x1 : Int32) (x2 : Int32) (x3 : Int32) (st : mm_S) (H : Heap) (locs : List Loc) (ls : Array Slot), K2 x1 x2 x3 st = some st' → lv_has ls 8 [(0, .ref o), (1, .int x1), (2, .int x2), (3, .int x3)] → mm_H D o ad cs s.heap st H locs → W p l e (mm_R 6 158) s m args below meth c H locs 0 0 (MQ below (mm_Qv D o ad cs st') args s 0 0 (mm_A o ad)) (F0 m 2 ls [])) (x1 : Int32) (x2 : Int32) (x3 : Int32) (st : mm_S) (hf : M_layGains_b2F fu K2 x1 x2 x3 st = some st') {H : Heap} {locs : List Loc} {ls : Array Slot} (hl : lv_has ls 8 [(0, .ref o), (1, .int x1), (2, .int x2), (3, .int x3)]) (hM : mm_H D o ad cs s.heap st H locs) : W p l e (mm_R 6 158) s m args below meth c H locs 0 0 (MQ below (mm_Qv D o ad cs st') args s 0 0 (mm_A o ad)) (F0 m 2 ls []) := by
  unfold M_layGains_b2F at hf
  refine lv_iload_n C.1 C.2.1 (dd_at td_layGains 2 rfl) rfl (lv_at hl 3 rfl) ?_
  refine lv_bipush (v := (9 : Int32)) C.1 C.2.1 (dd_at td_layGains 3 rfl) (by decide) ?_
  refine lv_icmp_ge (tgt := 26) C.1 C.2.1 (dd_at td_layGains 4 rfl) (by decide) (fun c1 => ?_) (fun c1 => ?_)
  · replace hf := fc_of_t hf c1
    refine lv_iload_n C.1 C.2.1 (dd_at td_layGains 16 rfl) rfl (lv_at hl 2 rfl) ?_
    refine lv_iconst (v := (1 : Int32)) C.1 C.2.1 (dd_at td_layGains 17 rfl) (by decide) ?_
    refine lv_isub C.1 C.2.1 (dd_at td_layGains 18 rfl) ?_
    refine lv_topi (fun v2 ev2 => ?_)
    replace hf := fc_of_nm hf v2 ev2
    refine lv_istore_n (lv' := [(3, .int v2), (0, .ref o), (1, .int x1), (2, .int x2)]) C.1 C.2.1 (dd_at td_layGains 19 rfl) rfl hl (by decide) rfl (fun ls hl => ?_)
    exact w_layGains_b30 C fu fu x1 x2 v2 st hf _ _ _ (lv_sub hl [1, 2, 3, 0] rfl) hM
  · replace hf := fc_of_f hf c1
    refine lv_aload_n C.1 C.2.1 (dd_at td_layGains 5 rfl) rfl (lv_at hl 0 rfl) ?_
    refine mm_gA C hM 26 (dd_at td_layGains 6 rfl) (by decide) (by decide) (by decide) ?_
    refine lv_bipush (v := (10 : Int32)) C.1 C.2.1 (dd_at td_layGains 7 rfl) (by decide) ?_
    refine lv_iload_n C.1 C.2.1 (dd_at td_layGains 8 rfl) rfl (lv_at hl 2 rfl) ?_
    refine lv_imul C.1 C.2.1 (dd_at td_layGains 9 rfl) ?_
    refine lv_iload_n C.1 C.2.1 (dd_at td_layGains 10 rfl) rfl (lv_at hl 3 rfl) ?_
    refine lv_iadd C.1 C.2.1 (dd_at td_layGains 11 rfl) ?_
    refine lv_lconst (v := (0 : Int64)) C.1 C.2.1 (dd_at td_layGains 12 rfl) (by decide) ?_
    obtain ⟨g3, hf⟩ := fc_of_gd hf
    refine mm_last C hM 26 (dd_at td_layGains 13 rfl) (by decide) (by decide) (fc_of_ix g3) (fun st4 H locs est4 hM => ?_)
    replace hf := fc_of_nm hf st4 est4
    obtain ⟨v5, ev5⟩ : ∃ y : Int32, y = x3 + (1 : Int32) := ⟨_, rfl⟩
    replace hf := fc_of_nm hf v5 ev5
    refine lv_iinc (v := v5) (lv' := [(3, .int v5), (0, .ref o), (1, .int x1), (2, .int x2)]) C.1 C.2.1 (dd_at td_layGains 14 rfl) hl (k := 3) rfl (by rw [ev5]; rfl) (by decide) rfl (fun ls hl => ?_)
    refine lv_goto (tgt := 2) C.1 C.2.1 (dd_at td_layGains 15 rfl) (by decide) ?_
    exact hK2 x1 x2 v5 st4 _ _ _ hf (lv_sub hl [1, 2, 3, 0] rfl) hM
theorem w_layGains_b2 {p : Program} {l : Launch} {e : Env} {s : State} {m : MethodId} {args : Array Value} {below : List Frame} {meth : Method} {c : Code} {D : va_G} {o : Nat} {ad : Nat → Nat} {cs : ClassId × ClassId × ClassId} {st' : mm_S} (C : mm_C p s m args meth c cX12_layGains 8 (none) D cs) (fu : Nat) (n : Nat) : ∀ (x1 : Int32) (x2 : Int32) (x3 : Int32) (st : mm_S), M_layGains_b2 fu n x1 x2 x3 st = some st' → ∀ (H : Heap) (locs : List Loc) (ls : Array Slot), lv_has ls 8 [(0, .ref o), (1, .int x1), (2, .int x2), (3, .int x3)] → mm_H D o ad cs s.heap st H locs → W p l e (mm_R 6 158) s m args below meth c H locs 0 0 (MQ below (mm_Qv D o ad cs st') args s 0 0 (mm_A o ad)) (F0 m 2 ls []) := by
  induction n with
  | zero => exact fun _ _ _ _ hf => fc_no hf
  | succ n ih =>
    intro x1 x2 x3 st hf H locs ls hl hM
    exact w_layGains_b2F C fu (fun x1 x2 x3 st => M_layGains_b2 fu n x1 x2 x3 st) (fun x1 x2 x3 st H locs ls hf hl hM => ih x1 x2 x3 st hf H locs ls hl hM) x1 x2 x3 st hf hl hM
theorem w_layGains {p : Program} {l : Launch} {e : Env} {s : State} {m : MethodId} {args : Array Value} {below : List Frame} {meth : Method} {c : Code} {D : va_G} {o : Nat} {ad : Nat → Nat} {cs : ClassId × ClassId × ClassId} {st' : mm_S} (C : mm_C p s m args meth c cX12_layGains 8 (none) D cs) (fu : Nat) (x1 : Int32) (x2 : Int32) (st : mm_S) (hf : M_layGains fu x1 x2 st = some st') {H : Heap} {locs : List Loc} {ls : Array Slot} (hl : lv_has ls 8 [(0, .ref o), (1, .int x1), (2, .int x2)]) (hM : mm_H D o ad cs s.heap st H locs) : W p l e (mm_R 6 158) s m args below meth c H locs 0 0 (MQ below (mm_Qv D o ad cs st') args s 0 0 (mm_A o ad)) (F0 m 0 ls []) := by
  unfold M_layGains at hf
  refine lv_iconst (v := (0 : Int32)) C.1 C.2.1 (dd_at td_layGains 0 rfl) (by decide) ?_
  refine lv_istore_n (lv' := [(3, .int (0 : Int32)), (0, .ref o), (1, .int x1), (2, .int x2)]) C.1 C.2.1 (dd_at td_layGains 1 rfl) rfl hl (by decide) rfl (fun ls hl => ?_)
  exact w_layGains_b2 C fu fu x1 x2 (0 : Int32) st hf _ _ _ (lv_sub hl [1, 2, 3, 0] rfl) hM
theorem c_layGains (l : Launch) (D : va_G) (o : Nat) (ad : Nat → Nat) (cs : ClassId × ClassId × ClassId) (fu : Nat) (x1 : Int32) (x2 : Int32) (st : mm_S) : mm_Mv l D o ad cs yX12_layGains cX12_layGains 8 (none) 6 158 [.int x1, .int x2] st (M_layGains fu x1 x2 st) := by
  intro st' hf
  refine mm_enter (cc := cX12_layGains) (nL := 8) (ret := none) (by decide) rfl (Nat.le_of_ble_eq_true rfl) ?_
  intro p e s m args below meth c ls C hl hM
  exact w_layGains C fu x1 x2 st hf hl hM

/-! divisor -/
def tb_divisor : List (Nat × Instr × Nat) := [(0, .lload_n 1, 1), (1, .lconst 0, 1), (2, .lcmp, 1), (3, .ifCond .ge 8, 3), (6, .lload_n 1, 1), (7, .lneg, 1), (8, .goto 4, 3), (11, .lload_n 1, 1), (12, .lstore 5, 2), (14, .lload_n 3, 1), (15, .lstore 7, 2), (17, .lload 7, 2), (19, .lconst 0, 1), (20, .lcmp, 1), (21, .ifCond .eq 21, 3), (24, .lload 5, 2), (26, .lload 7, 2), (28, .lrem, 1), (29, .lstore 9, 2), (31, .lload 7, 2), (33, .lstore 5, 2), (35, .lload 9, 2), (37, .lstore 7, 2), (39, .goto (-22), 3), (42, .lload 5, 2), (44, .lreturn, 1)]
theorem td_divisor : tb_divisor.all (fun q => decide (decode cX12_divisor q.1 = .ok (q.2.1, q.2.2))) = true := by decide +kernel
theorem hd_divisor : yX12_divisor.cls = RX12 ∧ yX12_divisor.cls ≠ "java/lang/invoke/MethodHandle" ∧ yX12_divisor.cls ≠ "java/lang/invoke/VarHandle" ∧ (parseMethodDescriptor yX12_divisor.desc).map (fun d => d.parameters.length) = some 2 := by decide +kernel
theorem w_divisor_b17F {p : Program} {l : Launch} {e : Env} {s : State} {m : MethodId} {args : Array Value} {below : List Frame} {meth : Method} {c : Code} {D : va_G} {o : Nat} {ad : Nat → Nat} {cs : ClassId × ClassId × ClassId} {r : Int64} {st' : mm_S} (C : mm_C p s m args meth c cX12_divisor 11 (some .long) D cs) (fu : Nat) (K17 : Int64 → Int64 → mm_S → Option (Int64 × mm_S)) (hK17 : ∀ (x5 : Int64) (x7 : Int64) (st : mm_S) (H : Heap) (locs : List Loc) (ls : Array Slot), K17 x5 x7 st = some (r, st') → lv_has ls 11 [(0, .ref o), (5, .long x5), (7, .long x7)] → mm_H D o ad cs s.heap st H locs → W p l e (mm_R 0 0) s m args below meth c H locs 0 0 (MQ below (mm_Ql D o ad cs r st') args s 0 0 (mm_A o ad)) (F0 m 17 ls [])) (x5 : Int64) (x7 : Int64) (st : mm_S) (hf : M_divisor_b17F fu K17 x5 x7 st = some (r, st')) {H : Heap} {locs : List Loc} {ls : Array Slot} (hl : lv_has ls 11 [(0, .ref o), (5, .long x5), (7, .long x7)]) (hM : mm_H D o ad cs s.heap st H locs) : W p l e (mm_R 0 0) s m args below meth c H locs 0 0 (MQ below (mm_Ql D o ad cs r st') args s 0 0 (mm_A o ad)) (F0 m 17 ls []) := by
  unfold M_divisor_b17F at hf
  refine lv_lload C.1 C.2.1 (dd_at td_divisor 11 rfl) (lv_at hl 2 rfl) ?_
  refine lv_lconst (v := (0 : Int64)) C.1 C.2.1 (dd_at td_divisor 12 rfl) (by decide) ?_
  refine W.lcmp C.1 C.2.1 (dd_at td_divisor 13 rfl) ?_
  refine lv_if_eq (tgt := 42) C.1 C.2.1 (dd_at td_divisor 14 rfl) (by decide) (fun c2 => ?_) (fun c2 => ?_)
  · replace hf := fc_of_t hf c2
    refine lv_lload C.1 C.2.1 (dd_at td_divisor 24 rfl) (lv_at hl 1 rfl) ?_
    exact mm_rl C hM (dd_at td_divisor 25 rfl) hf
  · replace hf := fc_of_f hf c2
    refine lv_lload C.1 C.2.1 (dd_at td_divisor 15 rfl) (lv_at hl 1 rfl) ?_
    refine lv_lload C.1 C.2.1 (dd_at td_divisor 16 rfl) (lv_at hl 2 rfl) ?_
    obtain ⟨g3, hf⟩ := fc_of_gd hf
    refine lv_lrem C.1 C.2.1 (dd_at td_divisor 17 rfl) (fc_of_nzl g3) ?_
    refine lv_topl (fun v4 ev4 => ?_)
    replace hf := fc_of_nm hf v4 ev4
    refine lv_lstore (lv' := [(9, .long v4), (0, .ref o), (5, .long x5), (7, .long x7)]) C.1 C.2.1 (dd_at td_divisor 18 rfl) hl (by decide) rfl (fun ls hl => ?_)
    refine lv_lload C.1 C.2.1 (dd_at td_divisor 19 rfl) (lv_at hl 3 rfl) ?_
    refine lv_lstore (lv' := [(5, .long x7), (9, .long v4), (0, .ref o), (7, .long x7)]) C.1 C.2.1 (dd_at td_divisor 20 rfl) hl (by decide) rfl (fun ls hl => ?_)
    refine lv_lload C.1 C.2.1 (dd_at td_divisor 21 rfl) (lv_at hl 1 rfl) ?_
    refine lv_lstore (lv' := [(7, .long v4), (5, .long x7), (9, .long v4), (0, .ref o)]) C.1 C.2.1 (dd_at td_divisor 22 rfl) hl (by decide) rfl (fun ls hl => ?_)
    refine lv_goto (tgt := 17) C.1 C.2.1 (dd_at td_divisor 23 rfl) (by decide) ?_
    exact hK17 x7 v4 st _ _ _ hf (lv_sub hl [3, 1, 0] rfl) hM
theorem w_divisor_b17 {p : Program} {l : Launch} {e : Env} {s : State} {m : MethodId} {args : Array Value} {below : List Frame} {meth : Method} {c : Code} {D : va_G} {o : Nat} {ad : Nat → Nat} {cs : ClassId × ClassId × ClassId} {r : Int64} {st' : mm_S} (C : mm_C p s m args meth c cX12_divisor 11 (some .long) D cs) (fu : Nat) (n : Nat) : ∀ (x5 : Int64) (x7 : Int64) (st : mm_S), M_divisor_b17 fu n x5 x7 st = some (r, st') → ∀ (H : Heap) (locs : List Loc) (ls : Array Slot), lv_has ls 11 [(0, .ref o), (5, .long x5), (7, .long x7)] → mm_H D o ad cs s.heap st H locs → W p l e (mm_R 0 0) s m args below meth c H locs 0 0 (MQ below (mm_Ql D o ad cs r st') args s 0 0 (mm_A o ad)) (F0 m 17 ls []) := by
  induction n with
  | zero => exact fun _ _ _ hf => fc_no hf
  | succ n ih =>
    intro x5 x7 st hf H locs ls hl hM
    exact w_divisor_b17F C fu (fun x5 x7 st => M_divisor_b17 fu n x5 x7 st) (fun x5 x7 st H locs ls hf hl hM => ih x5 x7 st hf H locs ls hl hM) x5 x7 st hf hl hM
theorem w_divisor_b12 {p : Program} {l : Launch} {e : Env} {s : State} {m : MethodId} {args : Array Value} {below : List Frame} {meth : Method} {c : Code} {D : va_G} {o : Nat} {ad : Nat → Nat} {cs : ClassId × ClassId × ClassId} {r : Int64} {st' : mm_S} (C : mm_C p s m args meth c cX12_divisor 11 (some .long) D cs) (fu : Nat) (x3 : Int64) (s0 : Int64) (st : mm_S) (hf : M_divisor_b12 fu x3 s0 st = some (r, st')) {H : Heap} {locs : List Loc} {ls : Array Slot} (hl : lv_has ls 11 [(0, .ref o), (3, .long x3)]) (hM : mm_H D o ad cs s.heap st H locs) : W p l e (mm_R 0 0) s m args below meth c H locs 0 0 (MQ below (mm_Ql D o ad cs r st') args s 0 0 (mm_A o ad)) (F0 m 12 ls [.long s0]) := by
  unfold M_divisor_b12 at hf
  refine lv_lstore (lv' := [(5, .long s0), (0, .ref o), (3, .long x3)]) C.1 C.2.1 (dd_at td_divisor 8 rfl) hl (by decide) rfl (fun ls hl => ?_)
  refine lv_lload_n C.1 C.2.1 (dd_at td_divisor 9 rfl) rfl (lv_at hl 2 rfl) ?_
  refine lv_lstore (lv' := [(7, .long x3), (5, .long s0), (0, .ref o), (3, .long x3)]) C.1 C.2.1 (dd_at td_divisor 10 rfl) hl (by decide) rfl (fun ls hl => ?_)
  exact w_divisor_b17 C fu fu s0 x3 st hf _ _ _ (lv_sub hl [2, 1, 0] rfl) hM
theorem w_divisor {p : Program} {l : Launch} {e : Env} {s : State} {m : MethodId} {args : Array Value} {below : List Frame} {meth : Method} {c : Code} {D : va_G} {o : Nat} {ad : Nat → Nat} {cs : ClassId × ClassId × ClassId} {r : Int64} {st' : mm_S} (C : mm_C p s m args meth c cX12_divisor 11 (some .long) D cs) (fu : Nat) (x1 : Int64) (x3 : Int64) (st : mm_S) (hf : M_divisor fu x1 x3 st = some (r, st')) {H : Heap} {locs : List Loc} {ls : Array Slot} (hl : lv_has ls 11 [(0, .ref o), (1, .long x1), (3, .long x3)]) (hM : mm_H D o ad cs s.heap st H locs) : W p l e (mm_R 0 0) s m args below meth c H locs 0 0 (MQ below (mm_Ql D o ad cs r st') args s 0 0 (mm_A o ad)) (F0 m 0 ls []) := by
  unfold M_divisor at hf
  refine lv_lload_n C.1 C.2.1 (dd_at td_divisor 0 rfl) rfl (lv_at hl 1 rfl) ?_
  refine lv_lconst (v := (0 : Int64)) C.1 C.2.1 (dd_at td_divisor 1 rfl) (by decide) ?_
  refine W.lcmp C.1 C.2.1 (dd_at td_divisor 2 rfl) ?_
  refine lv_if_ge (tgt := 11) C.1 C.2.1 (dd_at td_divisor 3 rfl) (by decide) (fun c1 => ?_) (fun c1 => ?_)
  · replace hf := fc_of_t hf c1
    refine lv_lload_n C.1 C.2.1 (dd_at td_divisor 7 rfl) rfl (lv_at hl 1 rfl) ?_
    exact w_divisor_b12 C fu x3 x1 st hf (lv_sub hl [0, 2] rfl) hM
  · replace hf := fc_of_f hf c1
    refine lv_lload_n C.1 C.2.1 (dd_at td_divisor 4 rfl) rfl (lv_at hl 1 rfl) ?_
    refine lv_lneg C.1 C.2.1 (dd_at td_divisor 5 rfl) ?_
    refine lv_goto (tgt := 12) C.1 C.2.1 (dd_at td_divisor 6 rfl) (by decide) ?_
    exact w_divisor_b12 C fu x3 (-x1) st hf (lv_sub hl [0, 2] rfl) hM
theorem c_divisor (l : Launch) (D : va_G) (o : Nat) (ad : Nat → Nat) (cs : ClassId × ClassId × ClassId) (fu : Nat) (x1 : Int64) (x3 : Int64) (st : mm_S) : mm_Ml l D o ad cs yX12_divisor cX12_divisor 11 (some .long) 0 0 [.long x1, .long x3] st (M_divisor fu x1 x3 st) := by
  intro r st' hf
  refine mm_enter (cc := cX12_divisor) (nL := 11) (ret := some .long) (by decide) rfl (Nat.le_of_ble_eq_true rfl) ?_
  intro p e s m args below meth c ls C hl hM
  exact w_divisor C fu x1 x3 st hf hl hM

/-! lowest -/
def tb_lowest : List (Nat × Instr × Nat) := [(0, .aload_n 0, 1), (1, .lload_n 1, 1), (2, .lload_n 3, 1), (3, .invokevirtual 311, 3), (6, .lstore 6, 2), (8, .iload 5, 2), (10, .ifCond .ne 10, 3), (13, .lload_n 1, 1), (14, .lload 6, 2), (16, .ldiv, 1), (17, .goto 7, 3), (20, .lload_n 3, 1), (21, .lload 6, 2), (23, .ldiv, 1), (24, .lreturn, 1)]
theorem td_lowest : tb_lowest.all (fun q => decide (decode cX12_lowest q.1 = .ok (q.2.1, q.2.2))) = true := by decide +kernel
theorem hd_lowest : yX12_lowest.cls = RX12 ∧ yX12_lowest.cls ≠ "java/lang/invoke/MethodHandle" ∧ yX12_lowest.cls ≠ "java/lang/invoke/VarHandle" ∧ (parseMethodDescriptor yX12_lowest.desc).map (fun d => d.parameters.length) = some 3 := by decide +kernel
theorem w_lowest {p : Program} {l : Launch} {e : Env} {s : State} {m : MethodId} {args : Array Value} {below : List Frame} {meth : Method} {c : Code} {D : va_G} {o : Nat} {ad : Nat → Nat} {cs : ClassId × ClassId × ClassId} {r : Int64} {st' : mm_S} (C : mm_C p s m args meth c cX12_lowest 8 (some .long) D cs) (fu : Nat) (x1 : Int64) (x3 : Int64) (x5 : Int32) (st : mm_S) (hf : M_lowest fu x1 x3 x5 st = some (r, st')) {H : Heap} {locs : List Loc} {ls : Array Slot} (hl : lv_has ls 8 [(0, .ref o), (1, .long x1), (3, .long x3), (5, .int x5)]) (hM : mm_H D o ad cs s.heap st H locs) : W p l e (mm_R 1 30) s m args below meth c H locs 0 0 (MQ below (mm_Ql D o ad cs r st') args s 0 0 (mm_A o ad)) (F0 m 0 ls []) := by
  unfold M_lowest at hf
  refine lv_aload_n C.1 C.2.1 (dd_at td_lowest 0 rfl) rfl (lv_at hl 0 rfl) ?_
  refine lv_lload_n C.1 C.2.1 (dd_at td_lowest 1 rfl) rfl (lv_at hl 1 rfl) ?_
  refine lv_lload_n C.1 C.2.1 (dd_at td_lowest 2 rfl) rfl (lv_at hl 2 rfl) ?_
  obtain ⟨r3, st1, hx2, hf⟩ := fc_of_bn hf
  refine mm_cl (As := [.long x1, .long x3]) (rest := []) (n := 2) C hM (c_divisor l D o ad cs fu x1 x3 st) (List.mem_of_getElem? (i := 7) rfl) (dd_at td_lowest 3 rfl) hx2 hl.1 hd_divisor ⟨Nat.le_of_ble_eq_true rfl, Nat.le_of_ble_eq_true rfl⟩ rfl rfl (Nat.le_of_ble_eq_true rfl) ⟨Nat.le_refl 0, Nat.le_refl 0⟩ (fun H locs hM => ?_)
  refine lv_lstore (lv' := [(6, .long r3), (0, .ref o), (1, .long x1), (3, .long x3), (5, .int x5)]) C.1 C.2.1 (dd_at td_lowest 4 rfl) hl (by decide) rfl (fun ls hl => ?_)
  refine lv_iload C.1 C.2.1 (dd_at td_lowest 5 rfl) (lv_at hl 4 rfl) ?_
  refine lv_if_ne (tgt := 20) C.1 C.2.1 (dd_at td_lowest 6 rfl) (by decide) (fun c4 => ?_) (fun c4 => ?_)
  · replace hf := fc_of_f hf c4
    refine lv_lload_n C.1 C.2.1 (dd_at td_lowest 11 rfl) rfl (lv_at hl 3 rfl) ?_
    refine lv_lload C.1 C.2.1 (dd_at td_lowest 12 rfl) (lv_at hl 0 rfl) ?_
    obtain ⟨g5, hf⟩ := fc_of_gd hf
    refine lv_ldiv C.1 C.2.1 (dd_at td_lowest 13 rfl) (fc_of_nzl g5) ?_
    exact mm_rl C hM (dd_at td_lowest 14 rfl) hf
  · replace hf := fc_of_t hf c4
    refine lv_lload_n C.1 C.2.1 (dd_at td_lowest 7 rfl) rfl (lv_at hl 2 rfl) ?_
    refine lv_lload C.1 C.2.1 (dd_at td_lowest 8 rfl) (lv_at hl 0 rfl) ?_
    obtain ⟨g6, hf⟩ := fc_of_gd hf
    refine lv_ldiv C.1 C.2.1 (dd_at td_lowest 9 rfl) (fc_of_nzl g6) ?_
    refine lv_goto (tgt := 24) C.1 C.2.1 (dd_at td_lowest 10 rfl) (by decide) ?_
    exact mm_rl C hM (dd_at td_lowest 14 rfl) hf
theorem c_lowest (l : Launch) (D : va_G) (o : Nat) (ad : Nat → Nat) (cs : ClassId × ClassId × ClassId) (fu : Nat) (x1 : Int64) (x3 : Int64) (x5 : Int32) (st : mm_S) : mm_Ml l D o ad cs yX12_lowest cX12_lowest 8 (some .long) 1 30 [.long x1, .long x3, .int x5] st (M_lowest fu x1 x3 x5 st) := by
  intro r st' hf
  refine mm_enter (cc := cX12_lowest) (nL := 8) (ret := some .long) (by decide) rfl (Nat.le_of_ble_eq_true rfl) ?_
  intro p e s m args below meth c ls C hl hM
  exact w_lowest C fu x1 x3 x5 st hf hl hM

/-! isYears -/
def tb_isYears : List (Nat × Instr × Nat) := [(0, .aload_n 0, 1), (1, .iload_n 1, 1), (2, .iconst 0, 1), (3, .bipush 8, 2), (5, .invokevirtual 207, 3), (8, .ireturn, 1)]
theorem td_isYears : tb_isYears.all (fun q => decide (decode cX12_isYears q.1 = .ok (q.2.1, q.2.2))) = true := by decide +kernel
theorem hd_isYears : yX12_isYears.cls = RX12 ∧ yX12_isYears.cls ≠ "java/lang/invoke/MethodHandle" ∧ yX12_isYears.cls ≠ "java/lang/invoke/VarHandle" ∧ (parseMethodDescriptor yX12_isYears.desc).map (fun d => d.parameters.length) = some 1 := by decide +kernel
theorem w_isYears {p : Program} {l : Launch} {e : Env} {s : State} {m : MethodId} {args : Array Value} {below : List Frame} {meth : Method} {c : Code} {D : va_G} {o : Nat} {ad : Nat → Nat} {cs : ClassId × ClassId × ClassId} {r : Int32} {st' : mm_S} (C : mm_C p s m args meth c cX12_isYears 2 (some .boolean) D cs) (fu : Nat) (x1 : Int32) (st : mm_S) (hf : M_isYears fu x1 st = some (r, st')) {H : Heap} {locs : List Loc} {ls : Array Slot} (hl : lv_has ls 2 [(0, .ref o), (1, .int x1)]) (hM : mm_H D o ad cs s.heap st H locs) : W p l e (mm_R 1 23) s m args below meth c H locs 0 0 (MQ below (mm_Qi D o ad cs r st') args s 0 0 (mm_A o ad)) (F0 m 0 ls []) := by
  unfold M_isYears at hf
  refine lv_aload_n C.1 C.2.1 (dd_at td_isYears 0 rfl) rfl (lv_at hl 0 rfl) ?_
  refine lv_iload_n C.1 C.2.1 (dd_at td_isYears 1 rfl) rfl (lv_at hl 1 rfl) ?_
  refine lv_iconst (v := (0 : Int32)) C.1 C.2.1 (dd_at td_isYears 2 rfl) (by decide) ?_
  refine lv_bipush (v := (8 : Int32)) C.1 C.2.1 (dd_at td_isYears 3 rfl) (by decide) ?_
  obtain ⟨r3, st1, hx2, hf⟩ := fc_of_bn hf
  refine mm_ci (As := [.int x1, .int (0 : Int32), .int (8 : Int32)]) (rest := []) (n := 3) C hM (c_in l D o ad cs fu x1 (0 : Int32) (8 : Int32) st) (List.mem_of_getElem? (i := 18) rfl) (dd_at td_isYears 4 rfl) hx2 hl.1 hd_in ⟨Nat.le_of_ble_eq_true rfl, Nat.le_of_ble_eq_true rfl⟩ rfl rfl (Nat.le_of_ble_eq_true rfl) ⟨Nat.le_refl 0, Nat.le_refl 0⟩ (fun H locs hM => ?_)
  obtain ⟨g4, hf⟩ := fc_of_gd hf
  exact mm_rz C hM (dd_at td_isYears 5 rfl) (fc_of_zb g4) hf
theorem c_isYears (l : Launch) (D : va_G) (o : Nat) (ad : Nat → Nat) (cs : ClassId × ClassId × ClassId) (fu : Nat) (x1 : Int32) (st : mm_S) : mm_Mi l D o ad cs yX12_isYears cX12_isYears 2 (some .boolean) 1 23 [.int x1] st (M_isYears fu x1 st) := by
  intro r st' hf
  refine mm_enter (cc := cX12_isYears) (nL := 2) (ret := some .boolean) (by decide) rfl (Nat.le_of_ble_eq_true rfl) ?_
  intro p e s m args below meth c ls C hl hM
  exact w_isYears C fu x1 st hf hl hM
end
section
/-! isAsked -/
def tb_isAsked : List (Nat × Instr × Nat) := [(0, .aload_n 0, 1), (1, .iload_n 1, 1), (2, .invokevirtual 315, 3), (5, .ifCond .eq 24, 3), (8, .aload_n 0, 1), (9, .iload_n 2, 1), (10, .iconst 0, 1), (11, .iconst 1, 1), (12, .invokevirtual 207, 3), (15, .ifCond .eq 14, 3), (18, .aload_n 0, 1), (19, .getfield 7, 3), (22, .ifCond .le 7, 3), (25, .iconst 1, 1), (26, .goto 4, 3), (29, .iconst 0, 1), (30, .ireturn, 1)]
theorem td_isAsked : tb_isAsked.all (fun q => decide (decode cX12_isAsked q.1 = .ok (q.2.1, q.2.2))) = true := by decide +kernel
theorem hd_isAsked : yX12_isAsked.cls = RX12 ∧ yX12_isAsked.cls ≠ "java/lang/invoke/MethodHandle" ∧ yX12_isAsked.cls ≠ "java/lang/invoke/VarHandle" ∧ (parseMethodDescriptor yX12_isAsked.desc).map (fun d => d.parameters.length) = some 2 := by decide +kernel
theorem w_isAsked {p : Program} {l : Launch} {e : Env} {s : State} {m : MethodId} {args : Array Value} {below : List Frame} {meth : Method} {c : Code} {D : va_G} {o : Nat} {ad : Nat → Nat} {cs : ClassId × ClassId × ClassId} {r : Int32} {st' : mm_S} (C : mm_C p s m args meth c cX12_isAsked 3 (some .boolean) D cs) (fu : Nat) (x1 : Int32) (x2 : Int32) (st : mm_S) (hf : M_isAsked fu x1 x2 st = some (r, st')) {H : Heap} {locs : List Loc} {ls : Array Slot} (hl : lv_has ls 3 [(0, .ref o), (1, .int x1), (2, .int x2)]) (hM : mm_H D o ad cs s.heap st H locs) : W p l e (mm_R 2 44) s m args below meth c H locs 0 0 (MQ below (mm_Qi D o ad cs r st') args s 0 0 (mm_A o ad)) (F0 m 0 ls []) := by
  unfold M_isAsked at hf
  refine lv_aload_n C.1 C.2.1 (dd_at td_isAsked 0 rfl) rfl (lv_at hl 0 rfl) ?_
  refine lv_iload_n C.1 C.2.1 (dd_at td_isAsked 1 rfl) rfl (lv_at hl 1 rfl) ?_
  obtain ⟨r3, st1, hx2, hf⟩ := fc_of_bn hf
  refine mm_ci (As := [.int x1]) (rest := []) (n := 1) C hM (c_isYears l D o ad cs fu x1 st) (List.mem_of_getElem? (i := 25) rfl) (dd_at td_isAsked 2 rfl) hx2 hl.1 hd_isYears ⟨Nat.le_of_ble_eq_true rfl, Nat.le_of_ble_eq_true rfl⟩ rfl rfl (Nat.le_of_ble_eq_true rfl) ⟨Nat.le_refl 0, Nat.le_refl 0⟩ (fun H locs hM => ?_)
  refine lv_if_eq (tgt := 29) C.1 C.2.1 (dd_at td_isAsked 3 rfl) (by decide) (fun c4 => ?_) (fun c4 => ?_)
  · replace hf := fc_of_t hf c4
    refine lv_iconst (v := (0 : Int32)) C.1 C.2.1 (dd_at td_isAsked 15 rfl) (by decide) ?_
    exact mm_rz C hM (dd_at td_isAsked 16 rfl) rfl hf
  · replace hf := fc_of_f hf c4
    refine lv_aload_n C.1 C.2.1 (dd_at td_isAsked 4 rfl) rfl (lv_at hl 0 rfl) ?_
    refine lv_iload_n C.1 C.2.1 (dd_at td_isAsked 5 rfl) rfl (lv_at hl 2 rfl) ?_
    refine lv_iconst (v := (0 : Int32)) C.1 C.2.1 (dd_at td_isAsked 6 rfl) (by decide) ?_
    refine lv_iconst (v := (1 : Int32)) C.1 C.2.1 (dd_at td_isAsked 7 rfl) (by decide) ?_
    obtain ⟨r7, st5, hx6, hf⟩ := fc_of_bn hf
    refine mm_ci (As := [.int x2, .int (0 : Int32), .int (1 : Int32)]) (rest := []) (n := 3) C hM (c_in l D o ad cs fu x2 (0 : Int32) (1 : Int32) st1) (List.mem_of_getElem? (i := 18) rfl) (dd_at td_isAsked 8 rfl) hx6 hl.1 hd_in ⟨Nat.le_of_ble_eq_true rfl, Nat.le_of_ble_eq_true rfl⟩ rfl rfl (Nat.le_of_ble_eq_true rfl) ⟨Nat.le_refl 0, Nat.le_refl 0⟩ (fun H locs hM => ?_)
    refine lv_if_eq (tgt := 29) C.1 C.2.1 (dd_at td_isAsked 9 rfl) (by decide) (fun c8 => ?_) (fun c8 => ?_)
    · replace hf := fc_of_t hf c8
      refine lv_iconst (v := (0 : Int32)) C.1 C.2.1 (dd_at td_isAsked 15 rfl) (by decide) ?_
      exact mm_rz C hM (dd_at td_isAsked 16 rfl) rfl hf
    · replace hf := fc_of_f hf c8
      refine lv_aload_n C.1 C.2.1 (dd_at td_isAsked 10 rfl) rfl (lv_at hl 0 rfl) ?_
      refine mm_gI C hM 0 (dd_at td_isAsked 11 rfl) (by decide) (by decide) (by decide) ?_
      refine lv_if_le (tgt := 29) C.1 C.2.1 (dd_at td_isAsked 12 rfl) (by decide) (fun c9 => ?_) (fun c9 => ?_)
      · replace hf := fc_of_t hf c9
        refine lv_iconst (v := (0 : Int32)) C.1 C.2.1 (dd_at td_isAsked 15 rfl) (by decide) ?_
        exact mm_rz C hM (dd_at td_isAsked 16 rfl) rfl hf
      · replace hf := fc_of_f hf c9
        refine lv_iconst (v := (1 : Int32)) C.1 C.2.1 (dd_at td_isAsked 13 rfl) (by decide) ?_
        refine lv_goto (tgt := 30) C.1 C.2.1 (dd_at td_isAsked 14 rfl) (by decide) ?_
        exact mm_rz C hM (dd_at td_isAsked 16 rfl) rfl hf
theorem c_isAsked (l : Launch) (D : va_G) (o : Nat) (ad : Nat → Nat) (cs : ClassId × ClassId × ClassId) (fu : Nat) (x1 : Int32) (x2 : Int32) (st : mm_S) : mm_Mi l D o ad cs yX12_isAsked cX12_isAsked 3 (some .boolean) 2 44 [.int x1, .int x2] st (M_isAsked fu x1 x2 st) := by
  intro r st' hf
  refine mm_enter (cc := cX12_isAsked) (nL := 3) (ret := some .boolean) (by decide) rfl (Nat.le_of_ble_eq_true rfl) ?_
  intro p e s m args below meth c ls C hl hM
  exact w_isAsked C fu x1 x2 st hf hl hM

/-! mean -/
def tb_mean : List (Nat × Instr × Nat) := [(0, .aload_n 0, 1), (1, .iload_n 1, 1), (2, .iload_n 2, 1), (3, .invokevirtual 318, 3), (6, .ifCond .ne 7, 3), (9, .ldc2_w 321, 3), (12, .lreturn, 1), (13, .aload_n 0, 1), (14, .iconst 0, 1), (15, .iload_n 1, 1), (16, .invokevirtual 323, 3), (19, .aload_n 0, 1), (20, .aload_n 0, 1), (21, .getfield 90, 3), (24, .aload_n 0, 1), (25, .getfield 13, 3), (28, .laload, 1), (29, .aload_n 0, 1), (30, .iload_n 1, 1), (31, .invokevirtual 295, 3), (34, .iload_n 2, 1), (35, .invokevirtual 327, 3), (38, .lreturn, 1)]
theorem td_mean : tb_mean.all (fun q => decide (decode cX12_mean q.1 = .ok (q.2.1, q.2.2))) = true := by decide +kernel
theorem w_mean {p : Program} {l : Launch} {e : Env} {s : State} {m : MethodId} {args : Array Value} {below : List Frame} {meth : Method} {c : Code} {D : va_G} {o : Nat} {ad : Nat → Nat} {cs : ClassId × ClassId × ClassId} {r : Int64} {st' : mm_S} (C : mm_C p s m args meth c cX12_mean 3 (some .long) D cs) (fu : Nat) (x1 : Int32) (x2 : Int32) (st : mm_S) (hf : M_mean fu x1 x2 st = some (r, st')) {H : Heap} {locs : List Loc} {ls : Array Slot} (hl : lv_has ls 3 [(0, .ref o), (1, .int x1), (2, .int x2)]) (hM : mm_H D o ad cs s.heap st H locs) : W p l e (mm_R 7 185) s m args below meth c H locs 0 0 (MQ below (mm_Ql D o ad cs r st') args s 0 0 (mm_A o ad)) (F0 m 0 ls []) := by
  unfold M_mean at hf
  refine lv_aload_n C.1 C.2.1 (dd_at td_mean 0 rfl) rfl (lv_at hl 0 rfl) ?_
  refine lv_iload_n C.1 C.2.1 (dd_at td_mean 1 rfl) rfl (lv_at hl 1 rfl) ?_
  refine lv_iload_n C.1 C.2.1 (dd_at td_mean 2 rfl) rfl (lv_at hl 2 rfl) ?_
  obtain ⟨r3, st1, hx2, hf⟩ := fc_of_bn hf
  refine mm_ci (As := [.int x1, .int x2]) (rest := []) (n := 2) C hM (c_isAsked l D o ad cs fu x1 x2 st) (List.mem_of_getElem? (i := 19) rfl) (dd_at td_mean 3 rfl) hx2 hl.1 hd_isAsked ⟨Nat.le_of_ble_eq_true rfl, Nat.le_of_ble_eq_true rfl⟩ rfl rfl (Nat.le_of_ble_eq_true rfl) ⟨Nat.le_refl 0, Nat.le_refl 0⟩ (fun H locs hM => ?_)
  refine lv_if_ne (tgt := 13) C.1 C.2.1 (dd_at td_mean 4 rfl) (by decide) (fun c4 => ?_) (fun c4 => ?_)
  · replace hf := fc_of_f hf c4
    refine lv_aload_n C.1 C.2.1 (dd_at td_mean 7 rfl) rfl (lv_at hl 0 rfl) ?_
    refine lv_iconst (v := (0 : Int32)) C.1 C.2.1 (dd_at td_mean 8 rfl) (by decide) ?_
    refine lv_iload_n C.1 C.2.1 (dd_at td_mean 9 rfl) rfl (lv_at hl 1 rfl) ?_
    obtain ⟨st5, hx6, hf⟩ := fc_of_bv hf
    refine mm_cv (As := [.int (0 : Int32), .int x1]) (rest := []) (n := 2) C hM (c_layGains l D o ad cs fu (0 : Int32) x1 st1) (List.mem_of_getElem? (i := 27) rfl) (dd_at td_mean 10 rfl) hx6 hl.1 hd_layGains ⟨Nat.le_of_ble_eq_true rfl, Nat.le_of_ble_eq_true rfl⟩ rfl rfl (Nat.le_of_ble_eq_true rfl) ⟨Nat.le_refl 0, Nat.le_refl 0⟩ (fun H locs hM => ?_)
    refine lv_aload_n C.1 C.2.1 (dd_at td_mean 11 rfl) rfl (lv_at hl 0 rfl) ?_
    refine lv_aload_n C.1 C.2.1 (dd_at td_mean 12 rfl) rfl (lv_at hl 0 rfl) ?_
    refine mm_gA C hM 26 (dd_at td_mean 13 rfl) (by decide) (by decide) (by decide) ?_
    refine lv_aload_n C.1 C.2.1 (dd_at td_mean 14 rfl) rfl (lv_at hl 0 rfl) ?_
    refine mm_gI C hM 1 (dd_at td_mean 15 rfl) (by decide) (by decide) (by decide) ?_
    obtain ⟨g7, hf⟩ := fc_of_gd hf
    refine mm_lald C hM 26 (dd_at td_mean 16 rfl) (by decide) (by decide) (fc_of_ix g7) ?_
    refine lv_aload_n C.1 C.2.1 (dd_at td_mean 17 rfl) rfl (lv_at hl 0 rfl) ?_
    refine lv_iload_n C.1 C.2.1 (dd_at td_mean 18 rfl) rfl (lv_at hl 1 rfl) ?_
    obtain ⟨r10, st8, hx9, hf⟩ := fc_of_bn hf
    refine mm_cl (As := [.int x1]) (rest := [.long (mm_L st5 26 (mm_I st5 1).toNatClampNeg), .ref o]) (n := 1) C hM (c_ways l D o ad cs fu x1 st5) (List.mem_of_getElem? (i := 46) rfl) (dd_at td_mean 19 rfl) hx9 hl.1 hd_ways ⟨Nat.le_of_ble_eq_true rfl, Nat.le_of_ble_eq_true rfl⟩ rfl rfl (Nat.le_of_ble_eq_true rfl) ⟨Nat.le_refl 0, Nat.le_refl 0⟩ (fun H locs hM => ?_)
    refine lv_iload_n C.1 C.2.1 (dd_at td_mean 20 rfl) rfl (lv_at hl 2 rfl) ?_
    obtain ⟨r13, st11, hx12, hf⟩ := fc_of_bn hf
    refine mm_cl (As := [.long (mm_L st5 26 (mm_I st5 1).toNatClampNeg), .long r10, .int x2]) (rest := []) (n := 3) C hM (c_lowest l D o ad cs fu (mm_L st5 26 (mm_I st5 1).toNatClampNeg) r10 x2 st8) (List.mem_of_getElem? (i := 28) rfl) (dd_at td_mean 21 rfl) hx12 hl.1 hd_lowest ⟨Nat.le_of_ble_eq_true rfl, Nat.le_of_ble_eq_true rfl⟩ rfl rfl (Nat.le_of_ble_eq_true rfl) ⟨Nat.le_refl 0, Nat.le_refl 0⟩ (fun H locs hM => ?_)
    exact mm_rl C hM (dd_at td_mean 22 rfl) hf
  · replace hf := fc_of_t hf c4
    refine lv_ldc2 (v := (-9223372036854775808 : Int64)) C.1 C.2.1 C.2.2.2.2.1 (C.2.2.2.2.2.1 (.constantLong RX12 321 (-9223372036854775808 : Int64)) (mm_Wk (by decide +kernel))) (dd_at td_mean 5 rfl) ?_
    exact mm_rl C hM (dd_at td_mean 6 rfl) hf
theorem c_mean (l : Launch) (D : va_G) (o : Nat) (ad : Nat → Nat) (cs : ClassId × ClassId × ClassId) (fu : Nat) (x1 : Int32) (x2 : Int32) (st : mm_S) : mm_Ml l D o ad cs yX12_mean cX12_mean 3 (some .long) 7 185 [.int x1, .int x2] st (M_mean fu x1 x2 st) := by
  intro r st' hf
  refine mm_enter (cc := cX12_mean) (nL := 3) (ret := some .long) (by decide) rfl (Nat.le_of_ble_eq_true rfl) ?_
  intro p e s m args below meth c ls C hl hM
  exact w_mean C fu x1 x2 st hf hl hM

/-! price -/
def tb_price : List (Nat × Instr × Nat) := [(0, .aload_n 0, 1), (1, .iload_n 1, 1), (2, .iload_n 2, 1), (3, .invokevirtual 318, 3), (6, .ifCond .eq 12, 3), (9, .aload_n 0, 1), (10, .getfield 13, 3), (13, .bipush 8, 2), (15, .if_icmp .ne 7, 3), (18, .ldc2_w 321, 3), (21, .lreturn, 1), (22, .aload_n 0, 1), (23, .iconst 0, 1), (24, .iload_n 1, 1), (25, .invokevirtual 323, 3), (28, .aload_n 0, 1), (29, .aload_n 0, 1), (30, .getfield 90, 3), (33, .aload_n 0, 1), (34, .getfield 13, 3), (37, .iconst 1, 1), (38, .iadd, 1), (39, .laload, 1), (40, .aload_n 0, 1), (41, .getfield 90, 3), (44, .aload_n 0, 1), (45, .getfield 13, 3), (48, .laload, 1), (49, .lsub, 1), (50, .aload_n 0, 1), (51, .iload_n 1, 1), (52, .invokevirtual 295, 3), (55, .iload_n 2, 1), (56, .invokevirtual 327, 3), (59, .lreturn, 1)]
theorem td_price : tb_price.all (fun q => decide (decode cX12_price q.1 = .ok (q.2.1, q.2.2))) = true := by decide +kernel
theorem w_price {p : Program} {l : Launch} {e : Env} {s : State} {m : MethodId} {args : Array Value} {below : List Frame} {meth : Method} {c : Code} {D : va_G} {o : Nat} {ad : Nat → Nat} {cs : ClassId × ClassId × ClassId} {r : Int64} {st' : mm_S} (C : mm_C p s m args meth c cX12_price 3 (some .long) D cs) (fu : Nat) (x1 : Int32) (x2 : Int32) (st : mm_S) (hf : M_price fu x1 x2 st = some (r, st')) {H : Heap} {locs : List Loc} {ls : Array Slot} (hl : lv_has ls 3 [(0, .ref o), (1, .int x1), (2, .int x2)]) (hM : mm_H D o ad cs s.heap st H locs) : W p l e (mm_R 7 185) s m args below meth c H locs 0 0 (MQ below (mm_Ql D o ad cs r st') args s 0 0 (mm_A o ad)) (F0 m 0 ls []) := by
  unfold M_price at hf
  refine lv_aload_n C.1 C.2.1 (dd_at td_price 0 rfl) rfl (lv_at hl 0 rfl) ?_
  refine lv_iload_n C.1 C.2.1 (dd_at td_price 1 rfl) rfl (lv_at hl 1 rfl) ?_
  refine lv_iload_n C.1 C.2.1 (dd_at td_price 2 rfl) rfl (lv_at hl 2 rfl) ?_
  obtain ⟨r3, st1, hx2, hf⟩ := fc_of_bn hf
  refine mm_ci (As := [.int x1, .int x2]) (rest := []) (n := 2) C hM (c_isAsked l D o ad cs fu x1 x2 st) (List.mem_of_getElem? (i := 19) rfl) (dd_at td_price 3 rfl) hx2 hl.1 hd_isAsked ⟨Nat.le_of_ble_eq_true rfl, Nat.le_of_ble_eq_true rfl⟩ rfl rfl (Nat.le_of_ble_eq_true rfl) ⟨Nat.le_refl 0, Nat.le_refl 0⟩ (fun H locs hM => ?_)
  refine lv_if_eq (tgt := 18) C.1 C.2.1 (dd_at td_price 4 rfl) (by decide) (fun c4 => ?_) (fun c4 => ?_)
  · replace hf := fc_of_t hf c4
    refine lv_ldc2 (v := (-9223372036854775808 : Int64)) C.1 C.2.1 C.2.2.2.2.1 (C.2.2.2.2.2.1 (.constantLong RX12 321 (-9223372036854775808 : Int64)) (mm_Wk (by decide +kernel))) (dd_at td_price 9 rfl) ?_
    exact mm_rl C hM (dd_at td_price 10 rfl) hf
  · replace hf := fc_of_f hf c4
    refine lv_aload_n C.1 C.2.1 (dd_at td_price 5 rfl) rfl (lv_at hl 0 rfl) ?_
    refine mm_gI C hM 1 (dd_at td_price 6 rfl) (by decide) (by decide) (by decide) ?_
    refine lv_bipush (v := (8 : Int32)) C.1 C.2.1 (dd_at td_price 7 rfl) (by decide) ?_
    refine lv_icmp_ne (tgt := 22) C.1 C.2.1 (dd_at td_price 8 rfl) (by decide) (fun c5 => ?_) (fun c5 => ?_)
    · replace hf := fc_of_f hf c5
      refine lv_aload_n C.1 C.2.1 (dd_at td_price 11 rfl) rfl (lv_at hl 0 rfl) ?_
      refine lv_iconst (v := (0 : Int32)) C.1 C.2.1 (dd_at td_price 12 rfl) (by decide) ?_
      refine lv_iload_n C.1 C.2.1 (dd_at td_price 13 rfl) rfl (lv_at hl 1 rfl) ?_
      obtain ⟨st6, hx7, hf⟩ := fc_of_bv hf
      refine mm_cv (As := [.int (0 : Int32), .int x1]) (rest := []) (n := 2) C hM (c_layGains l D o ad cs fu (0 : Int32) x1 st1) (List.mem_of_getElem? (i := 27) rfl) (dd_at td_price 14 rfl) hx7 hl.1 hd_layGains ⟨Nat.le_of_ble_eq_true rfl, Nat.le_of_ble_eq_true rfl⟩ rfl rfl (Nat.le_of_ble_eq_true rfl) ⟨Nat.le_refl 0, Nat.le_refl 0⟩ (fun H locs hM => ?_)
      refine lv_aload_n C.1 C.2.1 (dd_at td_price 15 rfl) rfl (lv_at hl 0 rfl) ?_
      refine lv_aload_n C.1 C.2.1 (dd_at td_price 16 rfl) rfl (lv_at hl 0 rfl) ?_
      refine mm_gA C hM 26 (dd_at td_price 17 rfl) (by decide) (by decide) (by decide) ?_
      refine lv_aload_n C.1 C.2.1 (dd_at td_price 18 rfl) rfl (lv_at hl 0 rfl) ?_
      refine mm_gI C hM 1 (dd_at td_price 19 rfl) (by decide) (by decide) (by decide) ?_
      refine lv_iconst (v := (1 : Int32)) C.1 C.2.1 (dd_at td_price 20 rfl) (by decide) ?_
      refine lv_iadd C.1 C.2.1 (dd_at td_price 21 rfl) ?_
      obtain ⟨g8, hf⟩ := fc_of_gd hf
      refine mm_lald C hM 26 (dd_at td_price 22 rfl) (by decide) (by decide) (fc_of_ix g8) ?_
      refine lv_aload_n C.1 C.2.1 (dd_at td_price 23 rfl) rfl (lv_at hl 0 rfl) ?_
      refine mm_gA C hM 26 (dd_at td_price 24 rfl) (by decide) (by decide) (by decide) ?_
      refine lv_aload_n C.1 C.2.1 (dd_at td_price 25 rfl) rfl (lv_at hl 0 rfl) ?_
      refine mm_gI C hM 1 (dd_at td_price 26 rfl) (by decide) (by decide) (by decide) ?_
      obtain ⟨g9, hf⟩ := fc_of_gd hf
      refine mm_lald C hM 26 (dd_at td_price 27 rfl) (by decide) (by decide) (fc_of_ix g9) ?_
      refine lv_lsub C.1 C.2.1 (dd_at td_price 28 rfl) ?_
      refine lv_aload_n C.1 C.2.1 (dd_at td_price 29 rfl) rfl (lv_at hl 0 rfl) ?_
      refine lv_iload_n C.1 C.2.1 (dd_at td_price 30 rfl) rfl (lv_at hl 1 rfl) ?_
      obtain ⟨r12, st10, hx11, hf⟩ := fc_of_bn hf
      refine mm_cl (As := [.int x1]) (rest := [.long ((mm_L st6 26 ((mm_I st6 1) + (1 : Int32)).toNatClampNeg) - (mm_L st6 26 (mm_I st6 1).toNatClampNeg)), .ref o]) (n := 1) C hM (c_ways l D o ad cs fu x1 st6) (List.mem_of_getElem? (i := 46) rfl) (dd_at td_price 31 rfl) hx11 hl.1 hd_ways ⟨Nat.le_of_ble_eq_true rfl, Nat.le_of_ble_eq_true rfl⟩ rfl rfl (Nat.le_of_ble_eq_true rfl) ⟨Nat.le_refl 0, Nat.le_refl 0⟩ (fun H locs hM => ?_)
      refine lv_iload_n C.1 C.2.1 (dd_at td_price 32 rfl) rfl (lv_at hl 2 rfl) ?_
      obtain ⟨r15, st13, hx14, hf⟩ := fc_of_bn hf
      refine mm_cl (As := [.long ((mm_L st6 26 ((mm_I st6 1) + (1 : Int32)).toNatClampNeg) - (mm_L st6 26 (mm_I st6 1).toNatClampNeg)), .long r12, .int x2]) (rest := []) (n := 3) C hM (c_lowest l D o ad cs fu ((mm_L st6 26 ((mm_I st6 1) + (1 : Int32)).toNatClampNeg) - (mm_L st6 26 (mm_I st6 1).toNatClampNeg)) r12 x2 st10) (List.mem_of_getElem? (i := 28) rfl) (dd_at td_price 33 rfl) hx14 hl.1 hd_lowest ⟨Nat.le_of_ble_eq_true rfl, Nat.le_of_ble_eq_true rfl⟩ rfl rfl (Nat.le_of_ble_eq_true rfl) ⟨Nat.le_refl 0, Nat.le_refl 0⟩ (fun H locs hM => ?_)
      exact mm_rl C hM (dd_at td_price 34 rfl) hf
    · replace hf := fc_of_t hf c5
      refine lv_ldc2 (v := (-9223372036854775808 : Int64)) C.1 C.2.1 C.2.2.2.2.1 (C.2.2.2.2.2.1 (.constantLong RX12 321 (-9223372036854775808 : Int64)) (mm_Wk (by decide +kernel))) (dd_at td_price 9 rfl) ?_
      exact mm_rl C hM (dd_at td_price 10 rfl) hf
theorem c_price (l : Launch) (D : va_G) (o : Nat) (ad : Nat → Nat) (cs : ClassId × ClassId × ClassId) (fu : Nat) (x1 : Int32) (x2 : Int32) (st : mm_S) : mm_Ml l D o ad cs yX12_price cX12_price 3 (some .long) 7 185 [.int x1, .int x2] st (M_price fu x1 x2 st) := by
  intro r st' hf
  refine mm_enter (cc := cX12_price) (nL := 3) (ret := some .long) (by decide) rfl (Nat.le_of_ble_eq_true rfl) ?_
  intro p e s m args below meth c ls C hl hM
  exact w_price C fu x1 x2 st hf hl hM

/-! greedy -/
def tb_greedy : List (Nat × Instr × Nat) := [(0, .aload_n 0, 1), (1, .iload_n 1, 1), (2, .iload_n 2, 1), (3, .invokevirtual 318, 3), (6, .ifCond .ne 7, 3), (9, .ldc2_w 321, 3), (12, .lreturn, 1), (13, .aload_n 0, 1), (14, .iconst 1, 1), (15, .iload_n 1, 1), (16, .invokevirtual 323, 3), (19, .aload_n 0, 1), (20, .aload_n 0, 1), (21, .getfield 90, 3), (24, .aload_n 0, 1), (25, .getfield 13, 3), (28, .laload, 1), (29, .aload_n 0, 1), (30, .iload_n 1, 1), (31, .invokevirtual 295, 3), (34, .iload_n 2, 1), (35, .invokevirtual 327, 3), (38, .lreturn, 1)]
theorem td_greedy : tb_greedy.all (fun q => decide (decode cX12_greedy q.1 = .ok (q.2.1, q.2.2))) = true := by decide +kernel
theorem w_greedy {p : Program} {l : Launch} {e : Env} {s : State} {m : MethodId} {args : Array Value} {below : List Frame} {meth : Method} {c : Code} {D : va_G} {o : Nat} {ad : Nat → Nat} {cs : ClassId × ClassId × ClassId} {r : Int64} {st' : mm_S} (C : mm_C p s m args meth c cX12_greedy 3 (some .long) D cs) (fu : Nat) (x1 : Int32) (x2 : Int32) (st : mm_S) (hf : M_greedy fu x1 x2 st = some (r, st')) {H : Heap} {locs : List Loc} {ls : Array Slot} (hl : lv_has ls 3 [(0, .ref o), (1, .int x1), (2, .int x2)]) (hM : mm_H D o ad cs s.heap st H locs) : W p l e (mm_R 7 185) s m args below meth c H locs 0 0 (MQ below (mm_Ql D o ad cs r st') args s 0 0 (mm_A o ad)) (F0 m 0 ls []) := by
  unfold M_greedy at hf
  refine lv_aload_n C.1 C.2.1 (dd_at td_greedy 0 rfl) rfl (lv_at hl 0 rfl) ?_
  refine lv_iload_n C.1 C.2.1 (dd_at td_greedy 1 rfl) rfl (lv_at hl 1 rfl) ?_
  refine lv_iload_n C.1 C.2.1 (dd_at td_greedy 2 rfl) rfl (lv_at hl 2 rfl) ?_
  obtain ⟨r3, st1, hx2, hf⟩ := fc_of_bn hf
  refine mm_ci (As := [.int x1, .int x2]) (rest := []) (n := 2) C hM (c_isAsked l D o ad cs fu x1 x2 st) (List.mem_of_getElem? (i := 19) rfl) (dd_at td_greedy 3 rfl) hx2 hl.1 hd_isAsked ⟨Nat.le_of_ble_eq_true rfl, Nat.le_of_ble_eq_true rfl⟩ rfl rfl (Nat.le_of_ble_eq_true rfl) ⟨Nat.le_refl 0, Nat.le_refl 0⟩ (fun H locs hM => ?_)
  refine lv_if_ne (tgt := 13) C.1 C.2.1 (dd_at td_greedy 4 rfl) (by decide) (fun c4 => ?_) (fun c4 => ?_)
  · replace hf := fc_of_f hf c4
    refine lv_aload_n C.1 C.2.1 (dd_at td_greedy 7 rfl) rfl (lv_at hl 0 rfl) ?_
    refine lv_iconst (v := (1 : Int32)) C.1 C.2.1 (dd_at td_greedy 8 rfl) (by decide) ?_
    refine lv_iload_n C.1 C.2.1 (dd_at td_greedy 9 rfl) rfl (lv_at hl 1 rfl) ?_
    obtain ⟨st5, hx6, hf⟩ := fc_of_bv hf
    refine mm_cv (As := [.int (1 : Int32), .int x1]) (rest := []) (n := 2) C hM (c_layGains l D o ad cs fu (1 : Int32) x1 st1) (List.mem_of_getElem? (i := 27) rfl) (dd_at td_greedy 10 rfl) hx6 hl.1 hd_layGains ⟨Nat.le_of_ble_eq_true rfl, Nat.le_of_ble_eq_true rfl⟩ rfl rfl (Nat.le_of_ble_eq_true rfl) ⟨Nat.le_refl 0, Nat.le_refl 0⟩ (fun H locs hM => ?_)
    refine lv_aload_n C.1 C.2.1 (dd_at td_greedy 11 rfl) rfl (lv_at hl 0 rfl) ?_
    refine lv_aload_n C.1 C.2.1 (dd_at td_greedy 12 rfl) rfl (lv_at hl 0 rfl) ?_
    refine mm_gA C hM 26 (dd_at td_greedy 13 rfl) (by decide) (by decide) (by decide) ?_
    refine lv_aload_n C.1 C.2.1 (dd_at td_greedy 14 rfl) rfl (lv_at hl 0 rfl) ?_
    refine mm_gI C hM 1 (dd_at td_greedy 15 rfl) (by decide) (by decide) (by decide) ?_
    obtain ⟨g7, hf⟩ := fc_of_gd hf
    refine mm_lald C hM 26 (dd_at td_greedy 16 rfl) (by decide) (by decide) (fc_of_ix g7) ?_
    refine lv_aload_n C.1 C.2.1 (dd_at td_greedy 17 rfl) rfl (lv_at hl 0 rfl) ?_
    refine lv_iload_n C.1 C.2.1 (dd_at td_greedy 18 rfl) rfl (lv_at hl 1 rfl) ?_
    obtain ⟨r10, st8, hx9, hf⟩ := fc_of_bn hf
    refine mm_cl (As := [.int x1]) (rest := [.long (mm_L st5 26 (mm_I st5 1).toNatClampNeg), .ref o]) (n := 1) C hM (c_ways l D o ad cs fu x1 st5) (List.mem_of_getElem? (i := 46) rfl) (dd_at td_greedy 19 rfl) hx9 hl.1 hd_ways ⟨Nat.le_of_ble_eq_true rfl, Nat.le_of_ble_eq_true rfl⟩ rfl rfl (Nat.le_of_ble_eq_true rfl) ⟨Nat.le_refl 0, Nat.le_refl 0⟩ (fun H locs hM => ?_)
    refine lv_iload_n C.1 C.2.1 (dd_at td_greedy 20 rfl) rfl (lv_at hl 2 rfl) ?_
    obtain ⟨r13, st11, hx12, hf⟩ := fc_of_bn hf
    refine mm_cl (As := [.long (mm_L st5 26 (mm_I st5 1).toNatClampNeg), .long r10, .int x2]) (rest := []) (n := 3) C hM (c_lowest l D o ad cs fu (mm_L st5 26 (mm_I st5 1).toNatClampNeg) r10 x2 st8) (List.mem_of_getElem? (i := 28) rfl) (dd_at td_greedy 21 rfl) hx12 hl.1 hd_lowest ⟨Nat.le_of_ble_eq_true rfl, Nat.le_of_ble_eq_true rfl⟩ rfl rfl (Nat.le_of_ble_eq_true rfl) ⟨Nat.le_refl 0, Nat.le_refl 0⟩ (fun H locs hM => ?_)
    exact mm_rl C hM (dd_at td_greedy 22 rfl) hf
  · replace hf := fc_of_t hf c4
    refine lv_ldc2 (v := (-9223372036854775808 : Int64)) C.1 C.2.1 C.2.2.2.2.1 (C.2.2.2.2.2.1 (.constantLong RX12 321 (-9223372036854775808 : Int64)) (mm_Wk (by decide +kernel))) (dd_at td_greedy 5 rfl) ?_
    exact mm_rl C hM (dd_at td_greedy 6 rfl) hf
theorem c_greedy (l : Launch) (D : va_G) (o : Nat) (ad : Nat → Nat) (cs : ClassId × ClassId × ClassId) (fu : Nat) (x1 : Int32) (x2 : Int32) (st : mm_S) : mm_Ml l D o ad cs yX12_greedy cX12_greedy 3 (some .long) 7 185 [.int x1, .int x2] st (M_greedy fu x1 x2 st) := by
  intro r st' hf
  refine mm_enter (cc := cX12_greedy) (nL := 3) (ret := some .long) (by decide) rfl (Nat.le_of_ble_eq_true rfl) ?_
  intro p e s m args below meth c ls C hl hM
  exact w_greedy C fu x1 x2 st hf hl hM

/-! only -/
def tb_only : List (Nat × Instr × Nat) := [(0, .aload_n 0, 1), (1, .iload_n 1, 1), (2, .iconst 0, 1), (3, .bipush 63, 2), (5, .invokevirtual 207, 3), (8, .ifCond .eq 12, 3), (11, .aload_n 0, 1), (12, .iload_n 2, 1), (13, .iload_n 3, 1), (14, .invokevirtual 318, 3), (17, .ifCond .ne 7, 3), (20, .ldc2_w 321, 3), (23, .lreturn, 1), (24, .aload_n 0, 1), (25, .iload_n 1, 1), (26, .putfield 94, 3), (29, .aload_n 0, 1), (30, .iconst 2, 1), (31, .iload_n 2, 1), (32, .invokevirtual 323, 3), (35, .aload_n 0, 1), (36, .aload_n 0, 1), (37, .getfield 90, 3), (40, .aload_n 0, 1), (41, .getfield 13, 3), (44, .laload, 1), (45, .aload_n 0, 1), (46, .iload_n 2, 1), (47, .invokevirtual 295, 3), (50, .iload_n 3, 1), (51, .invokevirtual 327, 3), (54, .lreturn, 1)]
theorem td_only : tb_only.all (fun q => decide (decode cX12_only q.1 = .ok (q.2.1, q.2.2))) = true := by decide +kernel
theorem w_only {p : Program} {l : Launch} {e : Env} {s : State} {m : MethodId} {args : Array Value} {below : List Frame} {meth : Method} {c : Code} {D : va_G} {o : Nat} {ad : Nat → Nat} {cs : ClassId × ClassId × ClassId} {r : Int64} {st' : mm_S} (C : mm_C p s m args meth c cX12_only 4 (some .long) D cs) (fu : Nat) (x1 : Int32) (x2 : Int32) (x3 : Int32) (st : mm_S) (hf : M_only fu x1 x2 x3 st = some (r, st')) {H : Heap} {locs : List Loc} {ls : Array Slot} (hl : lv_has ls 4 [(0, .ref o), (1, .int x1), (2, .int x2), (3, .int x3)]) (hM : mm_H D o ad cs s.heap st H locs) : W p l e (mm_R 7 185) s m args below meth c H locs 0 0 (MQ below (mm_Ql D o ad cs r st') args s 0 0 (mm_A o ad)) (F0 m 0 ls []) := by
  unfold M_only at hf
  refine lv_aload_n C.1 C.2.1 (dd_at td_only 0 rfl) rfl (lv_at hl 0 rfl) ?_
  refine lv_iload_n C.1 C.2.1 (dd_at td_only 1 rfl) rfl (lv_at hl 1 rfl) ?_
  refine lv_iconst (v := (0 : Int32)) C.1 C.2.1 (dd_at td_only 2 rfl) (by decide) ?_
  refine lv_bipush (v := (63 : Int32)) C.1 C.2.1 (dd_at td_only 3 rfl) (by decide) ?_
  obtain ⟨r3, st1, hx2, hf⟩ := fc_of_bn hf
  refine mm_ci (As := [.int x1, .int (0 : Int32), .int (63 : Int32)]) (rest := []) (n := 3) C hM (c_in l D o ad cs fu x1 (0 : Int32) (63 : Int32) st) (List.mem_of_getElem? (i := 18) rfl) (dd_at td_only 4 rfl) hx2 hl.1 hd_in ⟨Nat.le_of_ble_eq_true rfl, Nat.le_of_ble_eq_true rfl⟩ rfl rfl (Nat.le_of_ble_eq_true rfl) ⟨Nat.le_refl 0, Nat.le_refl 0⟩ (fun H locs hM => ?_)
  refine lv_if_eq (tgt := 20) C.1 C.2.1 (dd_at td_only 5 rfl) (by decide) (fun c4 => ?_) (fun c4 => ?_)
  · replace hf := fc_of_t hf c4
    refine lv_ldc2 (v := (-9223372036854775808 : Int64)) C.1 C.2.1 C.2.2.2.2.1 (C.2.2.2.2.2.1 (.constantLong RX12 321 (-9223372036854775808 : Int64)) (mm_Wk (by decide +kernel))) (dd_at td_only 11 rfl) ?_
    exact mm_rl C hM (dd_at td_only 12 rfl) hf
  · replace hf := fc_of_f hf c4
    refine lv_aload_n C.1 C.2.1 (dd_at td_only 6 rfl) rfl (lv_at hl 0 rfl) ?_
    refine lv_iload_n C.1 C.2.1 (dd_at td_only 7 rfl) rfl (lv_at hl 2 rfl) ?_
    refine lv_iload_n C.1 C.2.1 (dd_at td_only 8 rfl) rfl (lv_at hl 3 rfl) ?_
    obtain ⟨r7, st5, hx6, hf⟩ := fc_of_bn hf
    refine mm_ci (As := [.int x2, .int x3]) (rest := []) (n := 2) C hM (c_isAsked l D o ad cs fu x2 x3 st1) (List.mem_of_getElem? (i := 19) rfl) (dd_at td_only 9 rfl) hx6 hl.1 hd_isAsked ⟨Nat.le_of_ble_eq_true rfl, Nat.le_of_ble_eq_true rfl⟩ rfl rfl (Nat.le_of_ble_eq_true rfl) ⟨Nat.le_refl 0, Nat.le_refl 0⟩ (fun H locs hM => ?_)
    refine lv_if_ne (tgt := 24) C.1 C.2.1 (dd_at td_only 10 rfl) (by decide) (fun c8 => ?_) (fun c8 => ?_)
    · replace hf := fc_of_f hf c8
      refine lv_aload_n C.1 C.2.1 (dd_at td_only 13 rfl) rfl (lv_at hl 0 rfl) ?_
      refine lv_iload_n C.1 C.2.1 (dd_at td_only 14 rfl) rfl (lv_at hl 1 rfl) ?_
      refine mm_pI C hM 27 (dd_at td_only 15 rfl) (by decide) (by decide) (by decide) rfl rfl (fun st9 H locs est9 hM => ?_)
      replace hf := fc_of_nm hf st9 est9
      refine lv_aload_n C.1 C.2.1 (dd_at td_only 16 rfl) rfl (lv_at hl 0 rfl) ?_
      refine lv_iconst (v := (2 : Int32)) C.1 C.2.1 (dd_at td_only 17 rfl) (by decide) ?_
      refine lv_iload_n C.1 C.2.1 (dd_at td_only 18 rfl) rfl (lv_at hl 2 rfl) ?_
      obtain ⟨st10, hx11, hf⟩ := fc_of_bv hf
      refine mm_cv (As := [.int (2 : Int32), .int x2]) (rest := []) (n := 2) C hM (c_layGains l D o ad cs fu (2 : Int32) x2 st9) (List.mem_of_getElem? (i := 27) rfl) (dd_at td_only 19 rfl) hx11 hl.1 hd_layGains ⟨Nat.le_of_ble_eq_true rfl, Nat.le_of_ble_eq_true rfl⟩ rfl rfl (Nat.le_of_ble_eq_true rfl) ⟨Nat.le_refl 0, Nat.le_refl 0⟩ (fun H locs hM => ?_)
      refine lv_aload_n C.1 C.2.1 (dd_at td_only 20 rfl) rfl (lv_at hl 0 rfl) ?_
      refine lv_aload_n C.1 C.2.1 (dd_at td_only 21 rfl) rfl (lv_at hl 0 rfl) ?_
      refine mm_gA C hM 26 (dd_at td_only 22 rfl) (by decide) (by decide) (by decide) ?_
      refine lv_aload_n C.1 C.2.1 (dd_at td_only 23 rfl) rfl (lv_at hl 0 rfl) ?_
      refine mm_gI C hM 1 (dd_at td_only 24 rfl) (by decide) (by decide) (by decide) ?_
      obtain ⟨g12, hf⟩ := fc_of_gd hf
      refine mm_lald C hM 26 (dd_at td_only 25 rfl) (by decide) (by decide) (fc_of_ix g12) ?_
      refine lv_aload_n C.1 C.2.1 (dd_at td_only 26 rfl) rfl (lv_at hl 0 rfl) ?_
      refine lv_iload_n C.1 C.2.1 (dd_at td_only 27 rfl) rfl (lv_at hl 2 rfl) ?_
      obtain ⟨r15, st13, hx14, hf⟩ := fc_of_bn hf
      refine mm_cl (As := [.int x2]) (rest := [.long (mm_L st10 26 (mm_I st10 1).toNatClampNeg), .ref o]) (n := 1) C hM (c_ways l D o ad cs fu x2 st10) (List.mem_of_getElem? (i := 46) rfl) (dd_at td_only 28 rfl) hx14 hl.1 hd_ways ⟨Nat.le_of_ble_eq_true rfl, Nat.le_of_ble_eq_true rfl⟩ rfl rfl (Nat.le_of_ble_eq_true rfl) ⟨Nat.le_refl 0, Nat.le_refl 0⟩ (fun H locs hM => ?_)
      refine lv_iload_n C.1 C.2.1 (dd_at td_only 29 rfl) rfl (lv_at hl 3 rfl) ?_
      obtain ⟨r18, st16, hx17, hf⟩ := fc_of_bn hf
      refine mm_cl (As := [.long (mm_L st10 26 (mm_I st10 1).toNatClampNeg), .long r15, .int x3]) (rest := []) (n := 3) C hM (c_lowest l D o ad cs fu (mm_L st10 26 (mm_I st10 1).toNatClampNeg) r15 x3 st13) (List.mem_of_getElem? (i := 28) rfl) (dd_at td_only 30 rfl) hx17 hl.1 hd_lowest ⟨Nat.le_of_ble_eq_true rfl, Nat.le_of_ble_eq_true rfl⟩ rfl rfl (Nat.le_of_ble_eq_true rfl) ⟨Nat.le_refl 0, Nat.le_refl 0⟩ (fun H locs hM => ?_)
      exact mm_rl C hM (dd_at td_only 31 rfl) hf
    · replace hf := fc_of_t hf c8
      refine lv_ldc2 (v := (-9223372036854775808 : Int64)) C.1 C.2.1 C.2.2.2.2.1 (C.2.2.2.2.2.1 (.constantLong RX12 321 (-9223372036854775808 : Int64)) (mm_Wk (by decide +kernel))) (dd_at td_only 11 rfl) ?_
      exact mm_rl C hM (dd_at td_only 12 rfl) hf
theorem c_only (l : Launch) (D : va_G) (o : Nat) (ad : Nat → Nat) (cs : ClassId × ClassId × ClassId) (fu : Nat) (x1 : Int32) (x2 : Int32) (x3 : Int32) (st : mm_S) : mm_Ml l D o ad cs yX12_only cX12_only 4 (some .long) 7 185 [.int x1, .int x2, .int x3] st (M_only fu x1 x2 x3 st) := by
  intro r st' hf
  refine mm_enter (cc := cX12_only) (nL := 4) (ret := some .long) (by decide) rfl (Nat.le_of_ble_eq_true rfl) ?_
  intro p e s m args below meth c ls C hl hM
  exact w_only C fu x1 x2 x3 st hf hl hM

/-! chosen -/
def tb_chosen : List (Nat × Instr × Nat) := [(0, .aload_n 0, 1), (1, .iload_n 1, 1), (2, .invokevirtual 315, 3), (5, .ifCond .ne 6, 3), (8, .bipush (-2), 2), (10, .ireturn, 1), (11, .aload_n 0, 1), (12, .getfield 7, 3), (15, .ifCond .ne 6, 3), (18, .bipush (-5), 2), (20, .ireturn, 1), (21, .bipush (-5), 2), (23, .istore_n 2, 1), (24, .lconst 0, 1), (25, .lstore_n 3, 1), (26, .iconst 0, 1), (27, .istore 5, 2), (29, .iload 5, 2), (31, .iconst 1, 1), (32, .aload_n 0, 1), (33, .getfield 7, 3), (36, .ishl, 1), (37, .if_icmp .ge 55, 3), (40, .aload_n 0, 1), (41, .iload 5, 2), (43, .putfield 94, 3), (46, .aload_n 0, 1), (47, .iconst 2, 1), (48, .iload_n 1, 1), (49, .invokevirtual 323, 3), (52, .iload_n 2, 1), (53, .ifCond .lt 20, 3), (56, .aload_n 0, 1), (57, .getfield 90, 3), (60, .aload_n 0, 1), (61, .getfield 13, 3), (64, .laload, 1), (65, .lload_n 3, 1), (66, .lcmp, 1), (67, .ifCond .gt 6, 3), (70, .goto 16, 3), (73, .iload 5, 2), (75, .istore_n 2, 1), (76, .aload_n 0, 1), (77, .getfield 90, 3), (80, .aload_n 0, 1), (81, .getfield 13, 3), (84, .laload, 1), (85, .lstore_n 3, 1), (86, .iinc 5 1, 3), (89, .goto (-60), 3), (92, .iload_n 2, 1), (93, .ireturn, 1)]
theorem td_chosen : tb_chosen.all (fun q => decide (decode cX12_chosen q.1 = .ok (q.2.1, q.2.2))) = true := by decide +kernel
theorem w_chosen_b86 {p : Program} {l : Launch} {e : Env} {s : State} {m : MethodId} {args : Array Value} {below : List Frame} {meth : Method} {c : Code} {D : va_G} {o : Nat} {ad : Nat → Nat} {cs : ClassId × ClassId × ClassId} {r : Int32} {st' : mm_S} (C : mm_C p s m args meth c cX12_chosen 6 (some .int) D cs) (fu : Nat) (K29 : Int32 → Int32 → Int64 → Int32 → mm_S → Option (Int32 × mm_S)) (hK29 : ∀ (x1 : Int32) (x2 : Int32) (x3 : Int64) (x5 : Int32) (st : mm_S) (H : Heap) (locs : List Loc) (ls : Array Slot), K29 x1 x2 x3 x5 st = some (r, st') → lv_has ls 6 [(0, .ref o), (1, .int x1), (2, .int x2), (3, .long x3), (5, .int x5)] → mm_H D o ad cs s.heap st H locs → W p l e (mm_R 7 185) s m args below meth c H locs 0 0 (MQ below (mm_Qi D o ad cs r st') args s 0 0 (mm_A o ad)) (F0 m 29 ls [])) (x1 : Int32) (x2 : Int32) (x3 : Int64) (x5 : Int32) (st : mm_S) (hf : M_chosen_b86 fu K29 x1 x2 x3 x5 st = some (r, st')) {H : Heap} {locs : List Loc} {ls : Array Slot} (hl : lv_has ls 6 [(0, .ref o), (1, .int x1), (2, .int x2), (3, .long x3), (5, .int x5)]) (hM : mm_H D o ad cs s.heap st H locs) : W p l e (mm_R 7 185) s m args below meth c H locs 0 0 (MQ below (mm_Qi D o ad cs r st') args s 0 0 (mm_A o ad)) (F0 m 86 ls []) := by
  unfold M_chosen_b86 at hf
  obtain ⟨v15, ev15⟩ : ∃ y : Int32, y = x5 + (1 : Int32) := ⟨_, rfl⟩
  replace hf := fc_of_nm hf v15 ev15
  refine lv_iinc (v := v15) (lv' := [(5, .int v15), (0, .ref o), (1, .int x1), (2, .int x2), (3, .long x3)]) C.1 C.2.1 (dd_at td_chosen 49 rfl) hl (k := 4) rfl (by rw [ev15]; rfl) (by decide) rfl (fun ls hl => ?_)
  refine lv_goto (tgt := 29) C.1 C.2.1 (dd_at td_chosen 50 rfl) (by decide) ?_
  exact hK29 x1 x2 x3 v15 st _ _ _ hf (lv_sub hl [1, 2, 3, 4, 0] rfl) hM
theorem w_chosen_b73 {p : Program} {l : Launch} {e : Env} {s : State} {m : MethodId} {args : Array Value} {below : List Frame} {meth : Method} {c : Code} {D : va_G} {o : Nat} {ad : Nat → Nat} {cs : ClassId × ClassId × ClassId} {r : Int32} {st' : mm_S} (C : mm_C p s m args meth c cX12_chosen 6 (some .int) D cs) (fu : Nat) (K29 : Int32 → Int32 → Int64 → Int32 → mm_S → Option (Int32 × mm_S)) (hK29 : ∀ (x1 : Int32) (x2 : Int32) (x3 : Int64) (x5 : Int32) (st : mm_S) (H : Heap) (locs : List Loc) (ls : Array Slot), K29 x1 x2 x3 x5 st = some (r, st') → lv_has ls 6 [(0, .ref o), (1, .int x1), (2, .int x2), (3, .long x3), (5, .int x5)] → mm_H D o ad cs s.heap st H locs → W p l e (mm_R 7 185) s m args below meth c H locs 0 0 (MQ below (mm_Qi D o ad cs r st') args s 0 0 (mm_A o ad)) (F0 m 29 ls [])) (x1 : Int32) (x5 : Int32) (st : mm_S) (hf : M_chosen_b73 fu K29 x1 x5 st = some (r, st')) {H : Heap} {locs : List Loc} {ls : Array Slot} (hl : lv_has ls 6 [(0, .ref o), (1, .int x1), (5, .int x5)]) (hM : mm_H D o ad cs s.heap st H locs) : W p l e (mm_R 7 185) s m args below meth c H locs 0 0 (MQ below (mm_Qi D o ad cs r st') args s 0 0 (mm_A o ad)) (F0 m 73 ls []) := by
  unfold M_chosen_b73 at hf
  refine lv_iload C.1 C.2.1 (dd_at td_chosen 41 rfl) (lv_at hl 2 rfl) ?_
  refine lv_istore_n (lv' := [(2, .int x5), (0, .ref o), (1, .int x1), (5, .int x5)]) C.1 C.2.1 (dd_at td_chosen 42 rfl) rfl hl (by decide) rfl (fun ls hl => ?_)
  refine lv_aload_n C.1 C.2.1 (dd_at td_chosen 43 rfl) rfl (lv_at hl 1 rfl) ?_
  refine mm_gA C hM 26 (dd_at td_chosen 44 rfl) (by decide) (by decide) (by decide) ?_
  refine lv_aload_n C.1 C.2.1 (dd_at td_chosen 45 rfl) rfl (lv_at hl 1 rfl) ?_
  refine mm_gI C hM 1 (dd_at td_chosen 46 rfl) (by decide) (by decide) (by decide) ?_
  obtain ⟨g13, hf⟩ := fc_of_gd hf
  refine mm_lald C hM 26 (dd_at td_chosen 47 rfl) (by decide) (by decide) (fc_of_ix g13) ?_
  refine lv_topl (fun v14 ev14 => ?_)
  replace hf := fc_of_nm hf v14 ev14
  refine lv_lstore_n (lv' := [(3, .long v14), (2, .int x5), (0, .ref o), (1, .int x1), (5, .int x5)]) C.1 C.2.1 (dd_at td_chosen 48 rfl) rfl hl (by decide) rfl (fun ls hl => ?_)
  exact w_chosen_b86 C fu K29 hK29 x1 x5 v14 x5 st hf (lv_sub hl [2, 3, 1, 0, 4] rfl) hM
theorem w_chosen_b29F {p : Program} {l : Launch} {e : Env} {s : State} {m : MethodId} {args : Array Value} {below : List Frame} {meth : Method} {c : Code} {D : va_G} {o : Nat} {ad : Nat → Nat} {cs : ClassId × ClassId × ClassId} {r : Int32} {st' : mm_S} (C : mm_C p s m args meth c cX12_chosen 6 (some .int) D cs) (fu : Nat) (K29 : Int32 → Int32 → Int64 → Int32 → mm_S → Option (Int32 × mm_S)) (hK29 : ∀ (x1 : Int32) (x2 : Int32) (x3 : Int64) (x5 : Int32) (st : mm_S) (H : Heap) (locs : List Loc) (ls : Array Slot), K29 x1 x2 x3 x5 st = some (r, st') → lv_has ls 6 [(0, .ref o), (1, .int x1), (2, .int x2), (3, .long x3), (5, .int x5)] → mm_H D o ad cs s.heap st H locs → W p l e (mm_R 7 185) s m args below meth c H locs 0 0 (MQ below (mm_Qi D o ad cs r st') args s 0 0 (mm_A o ad)) (F0 m 29 ls [])) (x1 : Int32) (x2 : Int32) (x3 : Int64) (x5 : Int32) (st : mm_S) (hf : M_chosen_b29F fu K29 x1 x2 x3 x5 st = some (r, st')) {H : Heap} {locs : List Loc} {ls : Array Slot} (hl : lv_has ls 6 [(0, .ref o), (1, .int x1), (2, .int x2), (3, .long x3), (5, .int x5)]) (hM : mm_H D o ad cs s.heap st H locs) : W p l e (mm_R 7 185) s m args below meth c H locs 0 0 (MQ below (mm_Qi D o ad cs r st') args s 0 0 (mm_A o ad)) (F0 m 29 ls []) := by
  unfold M_chosen_b29F at hf
  refine lv_iload C.1 C.2.1 (dd_at td_chosen 17 rfl) (lv_at hl 4 rfl) ?_
  refine lv_iconst (v := (1 : Int32)) C.1 C.2.1 (dd_at td_chosen 18 rfl) (by decide) ?_
  refine lv_aload_n C.1 C.2.1 (dd_at td_chosen 19 rfl) rfl (lv_at hl 0 rfl) ?_
  refine mm_gI C hM 0 (dd_at td_chosen 20 rfl) (by decide) (by decide) (by decide) ?_
  refine lv_ishl C.1 C.2.1 (dd_at td_chosen 21 rfl) ?_
  refine lv_icmp_ge (tgt := 92) C.1 C.2.1 (dd_at td_chosen 22 rfl) (by decide) (fun c6 => ?_) (fun c6 => ?_)
  · replace hf := fc_of_t hf c6
    refine lv_iload_n C.1 C.2.1 (dd_at td_chosen 51 rfl) rfl (lv_at hl 2 rfl) ?_
    exact mm_ri C hM (dd_at td_chosen 52 rfl) hf
  · replace hf := fc_of_f hf c6
    refine lv_aload_n C.1 C.2.1 (dd_at td_chosen 23 rfl) rfl (lv_at hl 0 rfl) ?_
    refine lv_iload C.1 C.2.1 (dd_at td_chosen 24 rfl) (lv_at hl 4 rfl) ?_
    refine mm_pI C hM 27 (dd_at td_chosen 25 rfl) (by decide) (by decide) (by decide) rfl rfl (fun st7 H locs est7 hM => ?_)
    replace hf := fc_of_nm hf st7 est7
    refine lv_aload_n C.1 C.2.1 (dd_at td_chosen 26 rfl) rfl (lv_at hl 0 rfl) ?_
    refine lv_iconst (v := (2 : Int32)) C.1 C.2.1 (dd_at td_chosen 27 rfl) (by decide) ?_
    refine lv_iload_n C.1 C.2.1 (dd_at td_chosen 28 rfl) rfl (lv_at hl 1 rfl) ?_
    obtain ⟨st8, hx9, hf⟩ := fc_of_bv hf
    refine mm_cv (As := [.int (2 : Int32), .int x1]) (rest := []) (n := 2) C hM (c_layGains l D o ad cs fu (2 : Int32) x1 st7) (List.mem_of_getElem? (i := 27) rfl) (dd_at td_chosen 29 rfl) hx9 hl.1 hd_layGains ⟨Nat.le_of_ble_eq_true rfl, Nat.le_of_ble_eq_true rfl⟩ rfl rfl (Nat.le_of_ble_eq_true rfl) ⟨Nat.le_refl 0, Nat.le_refl 0⟩ (fun H locs hM => ?_)
    refine lv_iload_n C.1 C.2.1 (dd_at td_chosen 30 rfl) rfl (lv_at hl 2 rfl) ?_
    refine lv_if_lt (tgt := 73) C.1 C.2.1 (dd_at td_chosen 31 rfl) (by decide) (fun c10 => ?_) (fun c10 => ?_)
    · replace hf := fc_of_t hf c10
      exact w_chosen_b73 C fu K29 hK29 x1 x5 st8 hf (lv_sub hl [0, 1, 4] rfl) hM
    · replace hf := fc_of_f hf c10
      refine lv_aload_n C.1 C.2.1 (dd_at td_chosen 32 rfl) rfl (lv_at hl 0 rfl) ?_
      refine mm_gA C hM 26 (dd_at td_chosen 33 rfl) (by decide) (by decide) (by decide) ?_
      refine lv_aload_n C.1 C.2.1 (dd_at td_chosen 34 rfl) rfl (lv_at hl 0 rfl) ?_
      refine mm_gI C hM 1 (dd_at td_chosen 35 rfl) (by decide) (by decide) (by decide) ?_
      obtain ⟨g11, hf⟩ := fc_of_gd hf
      refine mm_lald C hM 26 (dd_at td_chosen 36 rfl) (by decide) (by decide) (fc_of_ix g11) ?_
      refine lv_lload_n C.1 C.2.1 (dd_at td_chosen 37 rfl) rfl (lv_at hl 3 rfl) ?_
      refine W.lcmp C.1 C.2.1 (dd_at td_chosen 38 rfl) ?_
      refine lv_if_gt (tgt := 73) C.1 C.2.1 (dd_at td_chosen 39 rfl) (by decide) (fun c12 => ?_) (fun c12 => ?_)
      · replace hf := fc_of_t hf c12
        exact w_chosen_b73 C fu K29 hK29 x1 x5 st8 hf (lv_sub hl [0, 1, 4] rfl) hM
      · replace hf := fc_of_f hf c12
        refine lv_goto (tgt := 86) C.1 C.2.1 (dd_at td_chosen 40 rfl) (by decide) ?_
        exact w_chosen_b86 C fu K29 hK29 x1 x2 x3 x5 st8 hf (lv_sub hl [0, 1, 2, 3, 4] rfl) hM
theorem w_chosen_b29 {p : Program} {l : Launch} {e : Env} {s : State} {m : MethodId} {args : Array Value} {below : List Frame} {meth : Method} {c : Code} {D : va_G} {o : Nat} {ad : Nat → Nat} {cs : ClassId × ClassId × ClassId} {r : Int32} {st' : mm_S} (C : mm_C p s m args meth c cX12_chosen 6 (some .int) D cs) (fu : Nat) (n : Nat) : ∀ (x1 : Int32) (x2 : Int32) (x3 : Int64) (x5 : Int32) (st : mm_S), M_chosen_b29 fu n x1 x2 x3 x5 st = some (r, st') → ∀ (H : Heap) (locs : List Loc) (ls : Array Slot), lv_has ls 6 [(0, .ref o), (1, .int x1), (2, .int x2), (3, .long x3), (5, .int x5)] → mm_H D o ad cs s.heap st H locs → W p l e (mm_R 7 185) s m args below meth c H locs 0 0 (MQ below (mm_Qi D o ad cs r st') args s 0 0 (mm_A o ad)) (F0 m 29 ls []) := by
  induction n with
  | zero => exact fun _ _ _ _ _ hf => fc_no hf
  | succ n ih =>
    intro x1 x2 x3 x5 st hf H locs ls hl hM
    exact w_chosen_b29F C fu (fun x1 x2 x3 x5 st => M_chosen_b29 fu n x1 x2 x3 x5 st) (fun x1 x2 x3 x5 st H locs ls hf hl hM => ih x1 x2 x3 x5 st hf H locs ls hl hM) x1 x2 x3 x5 st hf hl hM
theorem w_chosen {p : Program} {l : Launch} {e : Env} {s : State} {m : MethodId} {args : Array Value} {below : List Frame} {meth : Method} {c : Code} {D : va_G} {o : Nat} {ad : Nat → Nat} {cs : ClassId × ClassId × ClassId} {r : Int32} {st' : mm_S} (C : mm_C p s m args meth c cX12_chosen 6 (some .int) D cs) (fu : Nat) (x1 : Int32) (st : mm_S) (hf : M_chosen fu x1 st = some (r, st')) {H : Heap} {locs : List Loc} {ls : Array Slot} (hl : lv_has ls 6 [(0, .ref o), (1, .int x1)]) (hM : mm_H D o ad cs s.heap st H locs) : W p l e (mm_R 7 185) s m args below meth c H locs 0 0 (MQ below (mm_Qi D o ad cs r st') args s 0 0 (mm_A o ad)) (F0 m 0 ls []) := by
  unfold M_chosen at hf
  refine lv_aload_n C.1 C.2.1 (dd_at td_chosen 0 rfl) rfl (lv_at hl 0 rfl) ?_
  refine lv_iload_n C.1 C.2.1 (dd_at td_chosen 1 rfl) rfl (lv_at hl 1 rfl) ?_
  obtain ⟨r3, st1, hx2, hf⟩ := fc_of_bn hf
  refine mm_ci (As := [.int x1]) (rest := []) (n := 1) C hM (c_isYears l D o ad cs fu x1 st) (List.mem_of_getElem? (i := 25) rfl) (dd_at td_chosen 2 rfl) hx2 hl.1 hd_isYears ⟨Nat.le_of_ble_eq_true rfl, Nat.le_of_ble_eq_true rfl⟩ rfl rfl (Nat.le_of_ble_eq_true rfl) ⟨Nat.le_refl 0, Nat.le_refl 0⟩ (fun H locs hM => ?_)
  refine lv_if_ne (tgt := 11) C.1 C.2.1 (dd_at td_chosen 3 rfl) (by decide) (fun c4 => ?_) (fun c4 => ?_)
  · replace hf := fc_of_f hf c4
    refine lv_aload_n C.1 C.2.1 (dd_at td_chosen 6 rfl) rfl (lv_at hl 0 rfl) ?_
    refine mm_gI C hM 0 (dd_at td_chosen 7 rfl) (by decide) (by decide) (by decide) ?_
    refine lv_if_ne (tgt := 21) C.1 C.2.1 (dd_at td_chosen 8 rfl) (by decide) (fun c5 => ?_) (fun c5 => ?_)
    · replace hf := fc_of_f hf c5
      refine lv_bipush (v := (-5 : Int32)) C.1 C.2.1 (dd_at td_chosen 11 rfl) (by decide) ?_
      refine lv_istore_n (lv' := [(2, .int (-5 : Int32)), (0, .ref o), (1, .int x1)]) C.1 C.2.1 (dd_at td_chosen 12 rfl) rfl hl (by decide) rfl (fun ls hl => ?_)
      refine lv_lconst (v := (0 : Int64)) C.1 C.2.1 (dd_at td_chosen 13 rfl) (by decide) ?_
      refine lv_lstore_n (lv' := [(3, .long (0 : Int64)), (2, .int (-5 : Int32)), (0, .ref o), (1, .int x1)]) C.1 C.2.1 (dd_at td_chosen 14 rfl) rfl hl (by decide) rfl (fun ls hl => ?_)
      refine lv_iconst (v := (0 : Int32)) C.1 C.2.1 (dd_at td_chosen 15 rfl) (by decide) ?_
      refine lv_istore (lv' := [(5, .int (0 : Int32)), (3, .long (0 : Int64)), (2, .int (-5 : Int32)), (0, .ref o), (1, .int x1)]) C.1 C.2.1 (dd_at td_chosen 16 rfl) hl (by decide) rfl (fun ls hl => ?_)
      exact w_chosen_b29 C fu fu x1 (-5 : Int32) (0 : Int64) (0 : Int32) st1 hf _ _ _ (lv_sub hl [3, 4, 2, 1, 0] rfl) hM
    · replace hf := fc_of_t hf c5
      refine lv_bipush (v := (-5 : Int32)) C.1 C.2.1 (dd_at td_chosen 9 rfl) (by decide) ?_
      exact mm_ri C hM (dd_at td_chosen 10 rfl) hf
  · replace hf := fc_of_t hf c4
    refine lv_bipush (v := (-2 : Int32)) C.1 C.2.1 (dd_at td_chosen 4 rfl) (by decide) ?_
    exact mm_ri C hM (dd_at td_chosen 5 rfl) hf
theorem c_chosen (l : Launch) (D : va_G) (o : Nat) (ad : Nat → Nat) (cs : ClassId × ClassId × ClassId) (fu : Nat) (x1 : Int32) (st : mm_S) : mm_Mi l D o ad cs yX12_chosen cX12_chosen 6 (some .int) 7 185 [.int x1] st (M_chosen fu x1 st) := by
  intro r st' hf
  refine mm_enter (cc := cX12_chosen) (nL := 6) (ret := some .int) (by decide) rfl (Nat.le_of_ble_eq_true rfl) ?_
  intro p e s m args below meth c ls C hl hM
  exact w_chosen C fu x1 st hf hl hM

/-! wise -/
def tb_wise : List (Nat × Instr × Nat) := [(0, .aload_n 0, 1), (1, .iload_n 1, 1), (2, .invokevirtual 215, 3), (5, .ifCond .ne 5, 3), (8, .iconst (-1), 1), (9, .ireturn, 1), (10, .aload_n 0, 1), (11, .iload_n 2, 1), (12, .iconst 1, 1), (13, .bipush 8, 2), (15, .invokevirtual 207, 3), (18, .ifCond .ne 6, 3), (21, .bipush (-2), 2), (23, .ireturn, 1), (24, .aload_n 0, 1), (25, .getfield 13, 3), (28, .ifCond .ne 5, 3), (31, .iconst 0, 1), (32, .ireturn, 1), (33, .aload_n 0, 1), (34, .iconst 0, 1), (35, .iload_n 2, 1), (36, .invokevirtual 323, 3), (39, .aload_n 0, 1), (40, .iload_n 1, 1), (41, .iconst 0, 1), (42, .iload_n 2, 1), (43, .aload_n 0, 1), (44, .getfield 13, 3), (47, .invokevirtual 303, 3), (50, .aload_n 0, 1), (51, .iconst 0, 1), (52, .iload_n 2, 1), (53, .aload_n 0, 1), (54, .getfield 13, 3), (57, .invokevirtual 299, 3), (60, .lcmp, 1), (61, .ifCond .le 7, 3), (64, .iconst 1, 1), (65, .goto 4, 3), (68, .iconst 0, 1), (69, .ireturn, 1)]
theorem td_wise : tb_wise.all (fun q => decide (decode cX12_wise q.1 = .ok (q.2.1, q.2.2))) = true := by decide +kernel
theorem w_wise {p : Program} {l : Launch} {e : Env} {s : State} {m : MethodId} {args : Array Value} {below : List Frame} {meth : Method} {c : Code} {D : va_G} {o : Nat} {ad : Nat → Nat} {cs : ClassId × ClassId × ClassId} {r : Int32} {st' : mm_S} (C : mm_C p s m args meth c cX12_wise 3 (some .int) D cs) (fu : Nat) (x1 : Int32) (x2 : Int32) (st : mm_S) (hf : M_wise fu x1 x2 st = some (r, st')) {H : Heap} {locs : List Loc} {ls : Array Slot} (hl : lv_has ls 3 [(0, .ref o), (1, .int x1), (2, .int x2)]) (hM : mm_H D o ad cs s.heap st H locs) : W p l e (mm_R 7 185) s m args below meth c H locs 0 0 (MQ below (mm_Qi D o ad cs r st') args s 0 0 (mm_A o ad)) (F0 m 0 ls []) := by
  unfold M_wise at hf
  refine lv_aload_n C.1 C.2.1 (dd_at td_wise 0 rfl) rfl (lv_at hl 0 rfl) ?_
  refine lv_iload_n C.1 C.2.1 (dd_at td_wise 1 rfl) rfl (lv_at hl 1 rfl) ?_
  obtain ⟨r3, st1, hx2, hf⟩ := fc_of_bn hf
  refine mm_ci (As := [.int x1]) (rest := []) (n := 1) C hM (c_isNeed l D o ad cs fu x1 st) (List.mem_of_getElem? (i := 22) rfl) (dd_at td_wise 2 rfl) hx2 hl.1 hd_isNeed ⟨Nat.le_of_ble_eq_true rfl, Nat.le_of_ble_eq_true rfl⟩ rfl rfl (Nat.le_of_ble_eq_true rfl) ⟨Nat.le_refl 0, Nat.le_refl 0⟩ (fun H locs hM => ?_)
  refine lv_if_ne (tgt := 10) C.1 C.2.1 (dd_at td_wise 3 rfl) (by decide) (fun c4 => ?_) (fun c4 => ?_)
  · replace hf := fc_of_f hf c4
    refine lv_aload_n C.1 C.2.1 (dd_at td_wise 6 rfl) rfl (lv_at hl 0 rfl) ?_
    refine lv_iload_n C.1 C.2.1 (dd_at td_wise 7 rfl) rfl (lv_at hl 2 rfl) ?_
    refine lv_iconst (v := (1 : Int32)) C.1 C.2.1 (dd_at td_wise 8 rfl) (by decide) ?_
    refine lv_bipush (v := (8 : Int32)) C.1 C.2.1 (dd_at td_wise 9 rfl) (by decide) ?_
    obtain ⟨r7, st5, hx6, hf⟩ := fc_of_bn hf
    refine mm_ci (As := [.int x2, .int (1 : Int32), .int (8 : Int32)]) (rest := []) (n := 3) C hM (c_in l D o ad cs fu x2 (1 : Int32) (8 : Int32) st1) (List.mem_of_getElem? (i := 18) rfl) (dd_at td_wise 10 rfl) hx6 hl.1 hd_in ⟨Nat.le_of_ble_eq_true rfl, Nat.le_of_ble_eq_true rfl⟩ rfl rfl (Nat.le_of_ble_eq_true rfl) ⟨Nat.le_refl 0, Nat.le_refl 0⟩ (fun H locs hM => ?_)
    refine lv_if_ne (tgt := 24) C.1 C.2.1 (dd_at td_wise 11 rfl) (by decide) (fun c8 => ?_) (fun c8 => ?_)
    · replace hf := fc_of_f hf c8
      refine lv_aload_n C.1 C.2.1 (dd_at td_wise 14 rfl) rfl (lv_at hl 0 rfl) ?_
      refine mm_gI C hM 1 (dd_at td_wise 15 rfl) (by decide) (by decide) (by decide) ?_
      refine lv_if_ne (tgt := 33) C.1 C.2.1 (dd_at td_wise 16 rfl) (by decide) (fun c9 => ?_) (fun c9 => ?_)
      · replace hf := fc_of_f hf c9
        refine lv_aload_n C.1 C.2.1 (dd_at td_wise 19 rfl) rfl (lv_at hl 0 rfl) ?_
        refine lv_iconst (v := (0 : Int32)) C.1 C.2.1 (dd_at td_wise 20 rfl) (by decide) ?_
        refine lv_iload_n C.1 C.2.1 (dd_at td_wise 21 rfl) rfl (lv_at hl 2 rfl) ?_
        obtain ⟨st10, hx11, hf⟩ := fc_of_bv hf
        refine mm_cv (As := [.int (0 : Int32), .int x2]) (rest := []) (n := 2) C hM (c_layGains l D o ad cs fu (0 : Int32) x2 st5) (List.mem_of_getElem? (i := 27) rfl) (dd_at td_wise 22 rfl) hx11 hl.1 hd_layGains ⟨Nat.le_of_ble_eq_true rfl, Nat.le_of_ble_eq_true rfl⟩ rfl rfl (Nat.le_of_ble_eq_true rfl) ⟨Nat.le_refl 0, Nat.le_refl 0⟩ (fun H locs hM => ?_)
        refine lv_aload_n C.1 C.2.1 (dd_at td_wise 23 rfl) rfl (lv_at hl 0 rfl) ?_
        refine lv_iload_n C.1 C.2.1 (dd_at td_wise 24 rfl) rfl (lv_at hl 1 rfl) ?_
        refine lv_iconst (v := (0 : Int32)) C.1 C.2.1 (dd_at td_wise 25 rfl) (by decide) ?_
        refine lv_iload_n C.1 C.2.1 (dd_at td_wise 26 rfl) rfl (lv_at hl 2 rfl) ?_
        refine lv_aload_n C.1 C.2.1 (dd_at td_wise 27 rfl) rfl (lv_at hl 0 rfl) ?_
        refine mm_gI C hM 1 (dd_at td_wise 28 rfl) (by decide) (by decide) (by decide) ?_
        obtain ⟨r14, st12, hx13, hf⟩ := fc_of_bn hf
        refine mm_cl (As := [.int x1, .int (0 : Int32), .int x2, .int (mm_I st10 1)]) (rest := []) (n := 4) C hM (c_ifServed l D o ad cs fu x1 (0 : Int32) x2 (mm_I st10 1) st10) (List.mem_of_getElem? (i := 16) rfl) (dd_at td_wise 29 rfl) hx13 hl.1 hd_ifServed ⟨Nat.le_of_ble_eq_true rfl, Nat.le_of_ble_eq_true rfl⟩ rfl rfl (Nat.le_of_ble_eq_true rfl) ⟨Nat.le_refl 0, Nat.le_refl 0⟩ (fun H locs hM => ?_)
        refine lv_aload_n C.1 C.2.1 (dd_at td_wise 30 rfl) rfl (lv_at hl 0 rfl) ?_
        refine lv_iconst (v := (0 : Int32)) C.1 C.2.1 (dd_at td_wise 31 rfl) (by decide) ?_
        refine lv_iload_n C.1 C.2.1 (dd_at td_wise 32 rfl) rfl (lv_at hl 2 rfl) ?_
        refine lv_aload_n C.1 C.2.1 (dd_at td_wise 33 rfl) rfl (lv_at hl 0 rfl) ?_
        refine mm_gI C hM 1 (dd_at td_wise 34 rfl) (by decide) (by decide) (by decide) ?_
        obtain ⟨r17, st15, hx16, hf⟩ := fc_of_bn hf
        refine mm_cl (As := [.int (0 : Int32), .int x2, .int (mm_I st12 1)]) (rest := [.long r14]) (n := 3) C hM (c_ifSpared l D o ad cs fu (0 : Int32) x2 (mm_I st12 1) st12) (List.mem_of_getElem? (i := 17) rfl) (dd_at td_wise 35 rfl) hx16 hl.1 hd_ifSpared ⟨Nat.le_of_ble_eq_true rfl, Nat.le_of_ble_eq_true rfl⟩ rfl rfl (Nat.le_of_ble_eq_true rfl) ⟨Nat.le_refl 0, Nat.le_refl 0⟩ (fun H locs hM => ?_)
        refine W.lcmp C.1 C.2.1 (dd_at td_wise 36 rfl) ?_
        refine lv_if_le (tgt := 68) C.1 C.2.1 (dd_at td_wise 37 rfl) (by decide) (fun c18 => ?_) (fun c18 => ?_)
        · replace hf := fc_of_t hf c18
          refine lv_iconst (v := (0 : Int32)) C.1 C.2.1 (dd_at td_wise 40 rfl) (by decide) ?_
          exact mm_ri C hM (dd_at td_wise 41 rfl) hf
        · replace hf := fc_of_f hf c18
          refine lv_iconst (v := (1 : Int32)) C.1 C.2.1 (dd_at td_wise 38 rfl) (by decide) ?_
          refine lv_goto (tgt := 69) C.1 C.2.1 (dd_at td_wise 39 rfl) (by decide) ?_
          exact mm_ri C hM (dd_at td_wise 41 rfl) hf
      · replace hf := fc_of_t hf c9
        refine lv_iconst (v := (0 : Int32)) C.1 C.2.1 (dd_at td_wise 17 rfl) (by decide) ?_
        exact mm_ri C hM (dd_at td_wise 18 rfl) hf
    · replace hf := fc_of_t hf c8
      refine lv_bipush (v := (-2 : Int32)) C.1 C.2.1 (dd_at td_wise 12 rfl) (by decide) ?_
      exact mm_ri C hM (dd_at td_wise 13 rfl) hf
  · replace hf := fc_of_t hf c4
    refine lv_iconst (v := (-1 : Int32)) C.1 C.2.1 (dd_at td_wise 4 rfl) (by decide) ?_
    exact mm_ri C hM (dd_at td_wise 5 rfl) hf
theorem c_wise (l : Launch) (D : va_G) (o : Nat) (ad : Nat → Nat) (cs : ClassId × ClassId × ClassId) (fu : Nat) (x1 : Int32) (x2 : Int32) (st : mm_S) : mm_Mi l D o ad cs yX12_wise cX12_wise 3 (some .int) 7 185 [.int x1, .int x2] st (M_wise fu x1 x2 st) := by
  intro r st' hf
  refine mm_enter (cc := cX12_wise) (nL := 3) (ret := some .int) (by decide) rfl (Nat.le_of_ble_eq_true rfl) ?_
  intro p e s m args below meth c ls C hl hM
  exact w_wise C fu x1 x2 st hf hl hM

/-! spent -/
def tb_spent : List (Nat × Instr × Nat) := [(0, .aload_n 0, 1), (1, .iload_n 1, 1), (2, .iload_n 2, 1), (3, .invokevirtual 318, 3), (6, .ifCond .ne 7, 3), (9, .ldc2_w 321, 3), (12, .lreturn, 1), (13, .aload_n 0, 1), (14, .iconst 0, 1), (15, .iload_n 1, 1), (16, .invokevirtual 323, 3), (19, .iconst 0, 1), (20, .istore_n 3, 1), (21, .iload_n 3, 1), (22, .bipush 9, 2), (24, .if_icmp .ge 29, 3), (27, .aload_n 0, 1), (28, .getfield 97, 3), (31, .bipush 10, 2), (33, .iload_n 1, 1), (34, .imul, 1), (35, .iload_n 3, 1), (36, .iadd, 1), (37, .iload_n 3, 1), (38, .ifCond .ne 7, 3), (41, .lconst 1, 1), (42, .goto 4, 3), (45, .lconst 0, 1), (46, .lastore, 1), (47, .iinc 3 1, 3), (50, .goto (-29), 3), (53, .iload_n 1, 1), (54, .iconst 1, 1), (55, .isub, 1), (56, .istore_n 3, 1), (57, .iload_n 3, 1), (58, .ifCond .lt 114, 3), (61, .iconst 0, 1), (62, .istore 4, 2), (64, .iload 4, 2), (66, .bipush 9, 2), (68, .if_icmp .ge 98, 3), (71, .lconst 0, 1), (72, .lstore 5, 2), (74, .iconst 0, 1), (75, .istore 7, 2), (77, .iload 7, 2), (79, .aload_n 0, 1), (80, .getfield 7, 3), (83, .if_icmp .ge 63, 3), (86, .lload 5, 2), (88, .aload_n 0, 1), (89, .getfield 97, 3), (92, .bipush 10, 2), (94, .iload_n 3, 1), (95, .imul, 1), (96, .bipush 10, 2), (98, .iadd, 1), (99, .iload 4, 2), (101, .ifCond .le 32, 3), (104, .aload_n 0, 1), (105, .iload 7, 2), (107, .iload_n 3, 1), (108, .iload_n 1, 1), (109, .iload 4, 2), (111, .invokevirtual 303, 3), (114, .aload_n 0, 1), (115, .iload_n 3, 1), (116, .iload_n 1, 1), (117, .iload 4, 2), (119, .invokevirtual 299, 3), (122, .lcmp, 1), (123, .ifCond .le 10, 3), (126, .iload 4, 2), (128, .iconst 1, 1), (129, .isub, 1), (130, .goto 5, 3), (133, .iload 4, 2), (135, .iadd, 1), (136, .laload, 1), (137, .ladd, 1), (138, .lstore 5, 2), (140, .iinc 7 1, 3), (143, .goto (-66), 3), (146, .aload_n 0, 1), (147, .getfield 97, 3), (150, .bipush 10, 2), (152, .iload_n 3, 1), (153, .imul, 1), (154, .iload 4, 2), (156, .iadd, 1), (157, .lload 5, 2), (159, .lastore, 1), (160, .iinc 4 1, 3), (163, .goto (-99), 3), (166, .iinc 3 (-1), 3), (169, .goto (-112), 3), (172, .aload_n 0, 1), (173, .aload_n 0, 1), (174, .getfield 97, 3), (177, .aload_n 0, 1), (178, .getfield 13, 3), (181, .laload, 1), (182, .aload_n 0, 1), (183, .iload_n 1, 1), (184, .invokevirtual 295, 3), (187, .iload_n 2, 1), (188, .invokevirtual 327, 3), (191, .lreturn, 1)]
theorem td_spent : tb_spent.all (fun q => decide (decode cX12_spent q.1 = .ok (q.2.1, q.2.2))) = true := by decide +kernel
theorem w_spent_b135 {p : Program} {l : Launch} {e : Env} {s : State} {m : MethodId} {args : Array Value} {below : List Frame} {meth : Method} {c : Code} {D : va_G} {o : Nat} {ad : Nat → Nat} {cs : ClassId × ClassId × ClassId} {r : Int64} {st' : mm_S} (C : mm_C p s m args meth c cX12_spent 8 (some .long) D cs) (fu : Nat) (K57 : Int32 → Int32 → Int32 → mm_S → Option (Int64 × mm_S)) (hK57 : ∀ (x1 : Int32) (x2 : Int32) (x3 : Int32) (st : mm_S) (H : Heap) (locs : List Loc) (ls : Array Slot), K57 x1 x2 x3 st = some (r, st') → lv_has ls 8 [(0, .ref o), (1, .int x1), (2, .int x2), (3, .int x3)] → mm_H D o ad cs s.heap st H locs → W p l e (mm_R 7 185) s m args below meth c H locs 0 0 (MQ below (mm_Ql D o ad cs r st') args s 0 0 (mm_A o ad)) (F0 m 57 ls [])) (K64 : Int32 → Int32 → Int32 → Int32 → mm_S → Option (Int64 × mm_S)) (hK64 : ∀ (x1 : Int32) (x2 : Int32) (x3 : Int32) (x4 : Int32) (st : mm_S) (H : Heap) (locs : List Loc) (ls : Array Slot), K64 x1 x2 x3 x4 st = some (r, st') → lv_has ls 8 [(0, .ref o), (1, .int x1), (2, .int x2), (3, .int x3), (4, .int x4)] → mm_H D o ad cs s.heap st H locs → W p l e (mm_R 7 185) s m args below meth c H locs 0 0 (MQ below (mm_Ql D o ad cs r st') args s 0 0 (mm_A o ad)) (F0 m 64 ls [])) (K77 : Int32 → Int32 → Int32 → Int32 → Int64 → Int32 → mm_S → Option (Int64 × mm_S)) (hK77 : ∀ (x1 : Int32) (x2 : Int32) (x3 : Int32) (x4 : Int32) (x5 : Int64) (x7 : Int32) (st : mm_S) (H : Heap) (locs : List Loc) (ls : Array Slot), K77 x1 x2 x3 x4 x5 x7 st = some (r, st') → lv_has ls 8 [(0, .ref o), (1, .int x1), (2, .int x2), (3, .int x3), (4, .int x4), (5, .long x5), (7, .int x7)] → mm_H D o ad cs s.heap st H locs → W p l e (mm_R 7 185) s m args below meth c H locs 0 0 (MQ below (mm_Ql D o ad cs r st') args s 0 0 (mm_A o ad)) (F0 m 77 ls [])) (x1 : Int32) (x2 : Int32) (x3 : Int32) (x4 : Int32) (x7 : Int32) (s0 : Int32) (s1 : Int32) (s3 : Int64) (st : mm_S) (hf : M_spent_b135 fu K57 K64 K77 x1 x2 x3 x4 x7 s0 s1 s3 st = some (r, st')) {H : Heap} {locs : List Loc} {ls : Array Slot} (hl : lv_has ls 8 [(0, .ref o), (1, .int x1), (2, .int x2), (3, .int x3), (4, .int x4), (7, .int x7)]) (hM : mm_H D o ad cs s.heap st H locs) : W p l e (mm_R 7 185) s m args below meth c H locs 0 0 (MQ below (mm_Ql D o ad cs r st') args s 0 0 (mm_A o ad)) (F0 m 135 ls [.int s0, .int s1, .ref (ad 28), .long s3]) := by
  unfold M_spent_b135 at hf
  refine lv_iadd C.1 C.2.1 (dd_at td_spent 78 rfl) ?_
  obtain ⟨g35, hf⟩ := fc_of_gd hf
  refine mm_lald C hM 28 (dd_at td_spent 79 rfl) (by decide) (by decide) (fc_of_ix g35) ?_
  refine lv_ladd C.1 C.2.1 (dd_at td_spent 80 rfl) ?_
  refine lv_topl (fun v36 ev36 => ?_)
  replace hf := fc_of_nm hf v36 ev36
  refine lv_lstore (lv' := [(5, .long v36), (0, .ref o), (1, .int x1), (2, .int x2), (3, .int x3), (4, .int x4), (7, .int x7)]) C.1 C.2.1 (dd_at td_spent 81 rfl) hl (by decide) rfl (fun ls hl => ?_)
  obtain ⟨v37, ev37⟩ : ∃ y : Int32, y = x7 + (1 : Int32) := ⟨_, rfl⟩
  replace hf := fc_of_nm hf v37 ev37
  refine lv_iinc (v := v37) (lv' := [(7, .int v37), (5, .long v36), (0, .ref o), (1, .int x1), (2, .int x2), (3, .int x3), (4, .int x4)]) C.1 C.2.1 (dd_at td_spent 82 rfl) hl (k := 6) rfl (by rw [ev37]; rfl) (by decide) rfl (fun ls hl => ?_)
  refine lv_goto (tgt := 77) C.1 C.2.1 (dd_at td_spent 83 rfl) (by decide) ?_
  exact hK77 x1 x2 x3 x4 v36 v37 st _ _ _ hf (lv_sub hl [2, 3, 4, 5, 6, 1, 0] rfl) hM
theorem w_spent_b133 {p : Program} {l : Launch} {e : Env} {s : State} {m : MethodId} {args : Array Value} {below : List Frame} {meth : Method} {c : Code} {D : va_G} {o : Nat} {ad : Nat → Nat} {cs : ClassId × ClassId × ClassId} {r : Int64} {st' : mm_S} (C : mm_C p s m args meth c cX12_spent 8 (some .long) D cs) (fu : Nat) (K57 : Int32 → Int32 → Int32 → mm_S → Option (Int64 × mm_S)) (hK57 : ∀ (x1 : Int32) (x2 : Int32) (x3 : Int32) (st : mm_S) (H : Heap) (locs : List Loc) (ls : Array Slot), K57 x1 x2 x3 st = some (r, st') → lv_has ls 8 [(0, .ref o), (1, .int x1), (2, .int x2), (3, .int x3)] → mm_H D o ad cs s.heap st H locs → W p l e (mm_R 7 185) s m args below meth c H locs 0 0 (MQ below (mm_Ql D o ad cs r st') args s 0 0 (mm_A o ad)) (F0 m 57 ls [])) (K64 : Int32 → Int32 → Int32 → Int32 → mm_S → Option (Int64 × mm_S)) (hK64 : ∀ (x1 : Int32) (x2 : Int32) (x3 : Int32) (x4 : Int32) (st : mm_S) (H : Heap) (locs : List Loc) (ls : Array Slot), K64 x1 x2 x3 x4 st = some (r, st') → lv_has ls 8 [(0, .ref o), (1, .int x1), (2, .int x2), (3, .int x3), (4, .int x4)] → mm_H D o ad cs s.heap st H locs → W p l e (mm_R 7 185) s m args below meth c H locs 0 0 (MQ below (mm_Ql D o ad cs r st') args s 0 0 (mm_A o ad)) (F0 m 64 ls [])) (K77 : Int32 → Int32 → Int32 → Int32 → Int64 → Int32 → mm_S → Option (Int64 × mm_S)) (hK77 : ∀ (x1 : Int32) (x2 : Int32) (x3 : Int32) (x4 : Int32) (x5 : Int64) (x7 : Int32) (st : mm_S) (H : Heap) (locs : List Loc) (ls : Array Slot), K77 x1 x2 x3 x4 x5 x7 st = some (r, st') → lv_has ls 8 [(0, .ref o), (1, .int x1), (2, .int x2), (3, .int x3), (4, .int x4), (5, .long x5), (7, .int x7)] → mm_H D o ad cs s.heap st H locs → W p l e (mm_R 7 185) s m args below meth c H locs 0 0 (MQ below (mm_Ql D o ad cs r st') args s 0 0 (mm_A o ad)) (F0 m 77 ls [])) (x1 : Int32) (x2 : Int32) (x3 : Int32) (x4 : Int32) (x7 : Int32) (s0 : Int32) (s2 : Int64) (st : mm_S) (hf : M_spent_b133 fu K57 K64 K77 x1 x2 x3 x4 x7 s0 s2 st = some (r, st')) {H : Heap} {locs : List Loc} {ls : Array Slot} (hl : lv_has ls 8 [(0, .ref o), (1, .int x1), (2, .int x2), (3, .int x3), (4, .int x4), (7, .int x7)]) (hM : mm_H D o ad cs s.heap st H locs) : W p l e (mm_R 7 185) s m args below meth c H locs 0 0 (MQ below (mm_Ql D o ad cs r st') args s 0 0 (mm_A o ad)) (F0 m 133 ls [.int s0, .ref (ad 28), .long s2]) := by
  unfold M_spent_b133 at hf
  refine lv_iload C.1 C.2.1 (dd_at td_spent 77 rfl) (lv_at hl 4 rfl) ?_
  exact w_spent_b135 C fu K57 hK57 K64 hK64 K77 hK77 x1 x2 x3 x4 x7 x4 s0 s2 st hf (lv_sub hl [0, 1, 2, 3, 4, 5] rfl) hM
theorem w_spent_b77F {p : Program} {l : Launch} {e : Env} {s : State} {m : MethodId} {args : Array Value} {below : List Frame} {meth : Method} {c : Code} {D : va_G} {o : Nat} {ad : Nat → Nat} {cs : ClassId × ClassId × ClassId} {r : Int64} {st' : mm_S} (C : mm_C p s m args meth c cX12_spent 8 (some .long) D cs) (fu : Nat) (K57 : Int32 → Int32 → Int32 → mm_S → Option (Int64 × mm_S)) (hK57 : ∀ (x1 : Int32) (x2 : Int32) (x3 : Int32) (st : mm_S) (H : Heap) (locs : List Loc) (ls : Array Slot), K57 x1 x2 x3 st = some (r, st') → lv_has ls 8 [(0, .ref o), (1, .int x1), (2, .int x2), (3, .int x3)] → mm_H D o ad cs s.heap st H locs → W p l e (mm_R 7 185) s m args below meth c H locs 0 0 (MQ below (mm_Ql D o ad cs r st') args s 0 0 (mm_A o ad)) (F0 m 57 ls [])) (K64 : Int32 → Int32 → Int32 → Int32 → mm_S → Option (Int64 × mm_S)) (hK64 : ∀ (x1 : Int32) (x2 : Int32) (x3 : Int32) (x4 : Int32) (st : mm_S) (H : Heap) (locs : List Loc) (ls : Array Slot), K64 x1 x2 x3 x4 st = some (r, st') → lv_has ls 8 [(0, .ref o), (1, .int x1), (2, .int x2), (3, .int x3), (4, .int x4)] → mm_H D o ad cs s.heap st H locs → W p l e (mm_R 7 185) s m args below meth c H locs 0 0 (MQ below (mm_Ql D o ad cs r st') args s 0 0 (mm_A o ad)) (F0 m 64 ls [])) (K77 : Int32 → Int32 → Int32 → Int32 → Int64 → Int32 → mm_S → Option (Int64 × mm_S)) (hK77 : ∀ (x1 : Int32) (x2 : Int32) (x3 : Int32) (x4 : Int32) (x5 : Int64) (x7 : Int32) (st : mm_S) (H : Heap) (locs : List Loc) (ls : Array Slot), K77 x1 x2 x3 x4 x5 x7 st = some (r, st') → lv_has ls 8 [(0, .ref o), (1, .int x1), (2, .int x2), (3, .int x3), (4, .int x4), (5, .long x5), (7, .int x7)] → mm_H D o ad cs s.heap st H locs → W p l e (mm_R 7 185) s m args below meth c H locs 0 0 (MQ below (mm_Ql D o ad cs r st') args s 0 0 (mm_A o ad)) (F0 m 77 ls [])) (x1 : Int32) (x2 : Int32) (x3 : Int32) (x4 : Int32) (x5 : Int64) (x7 : Int32) (st : mm_S) (hf : M_spent_b77F fu K57 K64 K77 x1 x2 x3 x4 x5 x7 st = some (r, st')) {H : Heap} {locs : List Loc} {ls : Array Slot} (hl : lv_has ls 8 [(0, .ref o), (1, .int x1), (2, .int x2), (3, .int x3), (4, .int x4), (5, .long x5), (7, .int x7)]) (hM : mm_H D o ad cs s.heap st H locs) : W p l e (mm_R 7 185) s m args below meth c H locs 0 0 (MQ below (mm_Ql D o ad cs r st') args s 0 0 (mm_A o ad)) (F0 m 77 ls []) := by
  unfold M_spent_b77F at hf
  refine lv_iload C.1 C.2.1 (dd_at td_spent 46 rfl) (lv_at hl 6 rfl) ?_
  refine lv_aload_n C.1 C.2.1 (dd_at td_spent 47 rfl) rfl (lv_at hl 0 rfl) ?_
  refine mm_gI C hM 0 (dd_at td_spent 48 rfl) (by decide) (by decide) (by decide) ?_
  refine lv_icmp_ge (tgt := 146) C.1 C.2.1 (dd_at td_spent 49 rfl) (by decide) (fun c23 => ?_) (fun c23 => ?_)
  · replace hf := fc_of_t hf c23
    refine lv_aload_n C.1 C.2.1 (dd_at td_spent 84 rfl) rfl (lv_at hl 0 rfl) ?_
    refine mm_gA C hM 28 (dd_at td_spent 85 rfl) (by decide) (by decide) (by decide) ?_
    refine lv_bipush (v := (10 : Int32)) C.1 C.2.1 (dd_at td_spent 86 rfl) (by decide) ?_
    refine lv_iload_n C.1 C.2.1 (dd_at td_spent 87 rfl) rfl (lv_at hl 3 rfl) ?_
    refine lv_imul C.1 C.2.1 (dd_at td_spent 88 rfl) ?_
    refine lv_iload C.1 C.2.1 (dd_at td_spent 89 rfl) (lv_at hl 4 rfl) ?_
    refine lv_iadd C.1 C.2.1 (dd_at td_spent 90 rfl) ?_
    refine lv_lload C.1 C.2.1 (dd_at td_spent 91 rfl) (lv_at hl 5 rfl) ?_
    obtain ⟨g24, hf⟩ := fc_of_gd hf
    refine mm_last C hM 28 (dd_at td_spent 92 rfl) (by decide) (by decide) (fc_of_ix g24) (fun st25 H locs est25 hM => ?_)
    replace hf := fc_of_nm hf st25 est25
    obtain ⟨v26, ev26⟩ : ∃ y : Int32, y = x4 + (1 : Int32) := ⟨_, rfl⟩
    replace hf := fc_of_nm hf v26 ev26
    refine lv_iinc (v := v26) (lv' := [(4, .int v26), (0, .ref o), (1, .int x1), (2, .int x2), (3, .int x3), (5, .long x5), (7, .int x7)]) C.1 C.2.1 (dd_at td_spent 93 rfl) hl (k := 4) rfl (by rw [ev26]; rfl) (by decide) rfl (fun ls hl => ?_)
    refine lv_goto (tgt := 64) C.1 C.2.1 (dd_at td_spent 94 rfl) (by decide) ?_
    exact hK64 x1 x2 x3 v26 st25 _ _ _ hf (lv_sub hl [1, 2, 3, 4, 0] rfl) hM
  · replace hf := fc_of_f hf c23
    refine lv_lload C.1 C.2.1 (dd_at td_spent 50 rfl) (lv_at hl 5 rfl) ?_
    refine lv_aload_n C.1 C.2.1 (dd_at td_spent 51 rfl) rfl (lv_at hl 0 rfl) ?_
    refine mm_gA C hM 28 (dd_at td_spent 52 rfl) (by decide) (by decide) (by decide) ?_
    refine lv_bipush (v := (10 : Int32)) C.1 C.2.1 (dd_at td_spent 53 rfl) (by decide) ?_
    refine lv_iload_n C.1 C.2.1 (dd_at td_spent 54 rfl) rfl (lv_at hl 3 rfl) ?_
    refine lv_imul C.1 C.2.1 (dd_at td_spent 55 rfl) ?_
    refine lv_bipush (v := (10 : Int32)) C.1 C.2.1 (dd_at td_spent 56 rfl) (by decide) ?_
    refine lv_iadd C.1 C.2.1 (dd_at td_spent 57 rfl) ?_
    refine lv_iload C.1 C.2.1 (dd_at td_spent 58 rfl) (lv_at hl 4 rfl) ?_
    refine lv_if_le (tgt := 133) C.1 C.2.1 (dd_at td_spent 59 rfl) (by decide) (fun c27 => ?_) (fun c27 => ?_)
    · replace hf := fc_of_t hf c27
      exact w_spent_b133 C fu K57 hK57 K64 hK64 K77 hK77 x1 x2 x3 x4 x7 (((10 : Int32) * x3) + (10 : Int32)) x5 st hf (lv_sub hl [0, 1, 2, 3, 4, 6] rfl) hM
    · replace hf := fc_of_f hf c27
      refine lv_aload_n C.1 C.2.1 (dd_at td_spent 60 rfl) rfl (lv_at hl 0 rfl) ?_
      refine lv_iload C.1 C.2.1 (dd_at td_spent 61 rfl) (lv_at hl 6 rfl) ?_
      refine lv_iload_n C.1 C.2.1 (dd_at td_spent 62 rfl) rfl (lv_at hl 3 rfl) ?_
      refine lv_iload_n C.1 C.2.1 (dd_at td_spent 63 rfl) rfl (lv_at hl 1 rfl) ?_
      refine lv_iload C.1 C.2.1 (dd_at td_spent 64 rfl) (lv_at hl 4 rfl) ?_
      obtain ⟨r30, st28, hx29, hf⟩ := fc_of_bn hf
      refine mm_cl (As := [.int x7, .int x3, .int x1, .int x4]) (rest := [.int (((10 : Int32) * x3) + (10 : Int32)), .ref (ad 28), .long x5]) (n := 4) C hM (c_ifServed l D o ad cs fu x7 x3 x1 x4 st) (List.mem_of_getElem? (i := 16) rfl) (dd_at td_spent 65 rfl) hx29 hl.1 hd_ifServed ⟨Nat.le_of_ble_eq_true rfl, Nat.le_of_ble_eq_true rfl⟩ rfl rfl (Nat.le_of_ble_eq_true rfl) ⟨Nat.le_refl 0, Nat.le_refl 0⟩ (fun H locs hM => ?_)
      refine lv_aload_n C.1 C.2.1 (dd_at td_spent 66 rfl) rfl (lv_at hl 0 rfl) ?_
      refine lv_iload_n C.1 C.2.1 (dd_at td_spent 67 rfl) rfl (lv_at hl 3 rfl) ?_
      refine lv_iload_n C.1 C.2.1 (dd_at td_spent 68 rfl) rfl (lv_at hl 1 rfl) ?_
      refine lv_iload C.1 C.2.1 (dd_at td_spent 69 rfl) (lv_at hl 4 rfl) ?_
      obtain ⟨r33, st31, hx32, hf⟩ := fc_of_bn hf
      refine mm_cl (As := [.int x3, .int x1, .int x4]) (rest := [.long r30, .int (((10 : Int32) * x3) + (10 : Int32)), .ref (ad 28), .long x5]) (n := 3) C hM (c_ifSpared l D o ad cs fu x3 x1 x4 st28) (List.mem_of_getElem? (i := 17) rfl) (dd_at td_spent 70 rfl) hx32 hl.1 hd_ifSpared ⟨Nat.le_of_ble_eq_true rfl, Nat.le_of_ble_eq_true rfl⟩ rfl rfl (Nat.le_of_ble_eq_true rfl) ⟨Nat.le_refl 0, Nat.le_refl 0⟩ (fun H locs hM => ?_)
      refine W.lcmp C.1 C.2.1 (dd_at td_spent 71 rfl) ?_
      refine lv_if_le (tgt := 133) C.1 C.2.1 (dd_at td_spent 72 rfl) (by decide) (fun c34 => ?_) (fun c34 => ?_)
      · replace hf := fc_of_t hf c34
        exact w_spent_b133 C fu K57 hK57 K64 hK64 K77 hK77 x1 x2 x3 x4 x7 (((10 : Int32) * x3) + (10 : Int32)) x5 st31 hf (lv_sub hl [0, 1, 2, 3, 4, 6] rfl) hM
      · replace hf := fc_of_f hf c34
        refine lv_iload C.1 C.2.1 (dd_at td_spent 73 rfl) (lv_at hl 4 rfl) ?_
        refine lv_iconst (v := (1 : Int32)) C.1 C.2.1 (dd_at td_spent 74 rfl) (by decide) ?_
        refine lv_isub C.1 C.2.1 (dd_at td_spent 75 rfl) ?_
        refine lv_goto (tgt := 135) C.1 C.2.1 (dd_at td_spent 76 rfl) (by decide) ?_
        exact w_spent_b135 C fu K57 hK57 K64 hK64 K77 hK77 x1 x2 x3 x4 x7 (x4 - (1 : Int32)) (((10 : Int32) * x3) + (10 : Int32)) x5 st31 hf (lv_sub hl [0, 1, 2, 3, 4, 6] rfl) hM
theorem w_spent_b77 {p : Program} {l : Launch} {e : Env} {s : State} {m : MethodId} {args : Array Value} {below : List Frame} {meth : Method} {c : Code} {D : va_G} {o : Nat} {ad : Nat → Nat} {cs : ClassId × ClassId × ClassId} {r : Int64} {st' : mm_S} (C : mm_C p s m args meth c cX12_spent 8 (some .long) D cs) (fu : Nat) (K57 : Int32 → Int32 → Int32 → mm_S → Option (Int64 × mm_S)) (hK57 : ∀ (x1 : Int32) (x2 : Int32) (x3 : Int32) (st : mm_S) (H : Heap) (locs : List Loc) (ls : Array Slot), K57 x1 x2 x3 st = some (r, st') → lv_has ls 8 [(0, .ref o), (1, .int x1), (2, .int x2), (3, .int x3)] → mm_H D o ad cs s.heap st H locs → W p l e (mm_R 7 185) s m args below meth c H locs 0 0 (MQ below (mm_Ql D o ad cs r st') args s 0 0 (mm_A o ad)) (F0 m 57 ls [])) (K64 : Int32 → Int32 → Int32 → Int32 → mm_S → Option (Int64 × mm_S)) (hK64 : ∀ (x1 : Int32) (x2 : Int32) (x3 : Int32) (x4 : Int32) (st : mm_S) (H : Heap) (locs : List Loc) (ls : Array Slot), K64 x1 x2 x3 x4 st = some (r, st') → lv_has ls 8 [(0, .ref o), (1, .int x1), (2, .int x2), (3, .int x3), (4, .int x4)] → mm_H D o ad cs s.heap st H locs → W p l e (mm_R 7 185) s m args below meth c H locs 0 0 (MQ below (mm_Ql D o ad cs r st') args s 0 0 (mm_A o ad)) (F0 m 64 ls [])) (n : Nat) : ∀ (x1 : Int32) (x2 : Int32) (x3 : Int32) (x4 : Int32) (x5 : Int64) (x7 : Int32) (st : mm_S), M_spent_b77 fu K57 K64 n x1 x2 x3 x4 x5 x7 st = some (r, st') → ∀ (H : Heap) (locs : List Loc) (ls : Array Slot), lv_has ls 8 [(0, .ref o), (1, .int x1), (2, .int x2), (3, .int x3), (4, .int x4), (5, .long x5), (7, .int x7)] → mm_H D o ad cs s.heap st H locs → W p l e (mm_R 7 185) s m args below meth c H locs 0 0 (MQ below (mm_Ql D o ad cs r st') args s 0 0 (mm_A o ad)) (F0 m 77 ls []) := by
  induction n with
  | zero => exact fun _ _ _ _ _ _ _ hf => fc_no hf
  | succ n ih =>
    intro x1 x2 x3 x4 x5 x7 st hf H locs ls hl hM
    exact w_spent_b77F C fu K57 hK57 K64 hK64 (fun x1 x2 x3 x4 x5 x7 st => M_spent_b77 fu K57 K64 n x1 x2 x3 x4 x5 x7 st) (fun x1 x2 x3 x4 x5 x7 st H locs ls hf hl hM => ih x1 x2 x3 x4 x5 x7 st hf H locs ls hl hM) x1 x2 x3 x4 x5 x7 st hf hl hM
theorem w_spent_b64F {p : Program} {l : Launch} {e : Env} {s : State} {m : MethodId} {args : Array Value} {below : List Frame} {meth : Method} {c : Code} {D : va_G} {o : Nat} {ad : Nat → Nat} {cs : ClassId × ClassId × ClassId} {r : Int64} {st' : mm_S} (C : mm_C p s m args meth c cX12_spent 8 (some .long) D cs) (fu : Nat) (K57 : Int32 → Int32 → Int32 → mm_S → Option (Int64 × mm_S)) (hK57 : ∀ (x1 : Int32) (x2 : Int32) (x3 : Int32) (st : mm_S) (H : Heap) (locs : List Loc) (ls : Array Slot), K57 x1 x2 x3 st = some (r, st') → lv_has ls 8 [(0, .ref o), (1, .int x1), (2, .int x2), (3, .int x3)] → mm_H D o ad cs s.heap st H locs → W p l e (mm_R 7 185) s m args below meth c H locs 0 0 (MQ below (mm_Ql D o ad cs r st') args s 0 0 (mm_A o ad)) (F0 m 57 ls [])) (K64 : Int32 → Int32 → Int32 → Int32 → mm_S → Option (Int64 × mm_S)) (hK64 : ∀ (x1 : Int32) (x2 : Int32) (x3 : Int32) (x4 : Int32) (st : mm_S) (H : Heap) (locs : List Loc) (ls : Array Slot), K64 x1 x2 x3 x4 st = some (r, st') → lv_has ls 8 [(0, .ref o), (1, .int x1), (2, .int x2), (3, .int x3), (4, .int x4)] → mm_H D o ad cs s.heap st H locs → W p l e (mm_R 7 185) s m args below meth c H locs 0 0 (MQ below (mm_Ql D o ad cs r st') args s 0 0 (mm_A o ad)) (F0 m 64 ls [])) (x1 : Int32) (x2 : Int32) (x3 : Int32) (x4 : Int32) (st : mm_S) (hf : M_spent_b64F fu K57 K64 x1 x2 x3 x4 st = some (r, st')) {H : Heap} {locs : List Loc} {ls : Array Slot} (hl : lv_has ls 8 [(0, .ref o), (1, .int x1), (2, .int x2), (3, .int x3), (4, .int x4)]) (hM : mm_H D o ad cs s.heap st H locs) : W p l e (mm_R 7 185) s m args below meth c H locs 0 0 (MQ below (mm_Ql D o ad cs r st') args s 0 0 (mm_A o ad)) (F0 m 64 ls []) := by
  unfold M_spent_b64F at hf
  refine lv_iload C.1 C.2.1 (dd_at td_spent 39 rfl) (lv_at hl 4 rfl) ?_
  refine lv_bipush (v := (9 : Int32)) C.1 C.2.1 (dd_at td_spent 40 rfl) (by decide) ?_
  refine lv_icmp_ge (tgt := 166) C.1 C.2.1 (dd_at td_spent 41 rfl) (by decide) (fun c21 => ?_) (fun c21 => ?_)
  · replace hf := fc_of_t hf c21
    obtain ⟨v22, ev22⟩ : ∃ y : Int32, y = x3 + (-1 : Int32) := ⟨_, rfl⟩
    replace hf := fc_of_nm hf v22 ev22
    refine lv_iinc (v := v22) (lv' := [(3, .int v22), (0, .ref o), (1, .int x1), (2, .int x2), (4, .int x4)]) C.1 C.2.1 (dd_at td_spent 95 rfl) hl (k := 3) rfl (by rw [ev22]; rfl) (by decide) rfl (fun ls hl => ?_)
    refine lv_goto (tgt := 57) C.1 C.2.1 (dd_at td_spent 96 rfl) (by decide) ?_
    exact hK57 x1 x2 v22 st _ _ _ hf (lv_sub hl [1, 2, 3, 0] rfl) hM
  · replace hf := fc_of_f hf c21
    refine lv_lconst (v := (0 : Int64)) C.1 C.2.1 (dd_at td_spent 42 rfl) (by decide) ?_
    refine lv_lstore (lv' := [(5, .long (0 : Int64)), (0, .ref o), (1, .int x1), (2, .int x2), (3, .int x3), (4, .int x4)]) C.1 C.2.1 (dd_at td_spent 43 rfl) hl (by decide) rfl (fun ls hl => ?_)
    refine lv_iconst (v := (0 : Int32)) C.1 C.2.1 (dd_at td_spent 44 rfl) (by decide) ?_
    refine lv_istore (lv' := [(7, .int (0 : Int32)), (5, .long (0 : Int64)), (0, .ref o), (1, .int x1), (2, .int x2), (3, .int x3), (4, .int x4)]) C.1 C.2.1 (dd_at td_spent 45 rfl) hl (by decide) rfl (fun ls hl => ?_)
    exact w_spent_b77 C fu K57 hK57 K64 hK64 fu x1 x2 x3 x4 (0 : Int64) (0 : Int32) st hf _ _ _ (lv_sub hl [2, 3, 4, 5, 6, 1, 0] rfl) hM
theorem w_spent_b64 {p : Program} {l : Launch} {e : Env} {s : State} {m : MethodId} {args : Array Value} {below : List Frame} {meth : Method} {c : Code} {D : va_G} {o : Nat} {ad : Nat → Nat} {cs : ClassId × ClassId × ClassId} {r : Int64} {st' : mm_S} (C : mm_C p s m args meth c cX12_spent 8 (some .long) D cs) (fu : Nat) (K57 : Int32 → Int32 → Int32 → mm_S → Option (Int64 × mm_S)) (hK57 : ∀ (x1 : Int32) (x2 : Int32) (x3 : Int32) (st : mm_S) (H : Heap) (locs : List Loc) (ls : Array Slot), K57 x1 x2 x3 st = some (r, st') → lv_has ls 8 [(0, .ref o), (1, .int x1), (2, .int x2), (3, .int x3)] → mm_H D o ad cs s.heap st H locs → W p l e (mm_R 7 185) s m args below meth c H locs 0 0 (MQ below (mm_Ql D o ad cs r st') args s 0 0 (mm_A o ad)) (F0 m 57 ls [])) (n : Nat) : ∀ (x1 : Int32) (x2 : Int32) (x3 : Int32) (x4 : Int32) (st : mm_S), M_spent_b64 fu K57 n x1 x2 x3 x4 st = some (r, st') → ∀ (H : Heap) (locs : List Loc) (ls : Array Slot), lv_has ls 8 [(0, .ref o), (1, .int x1), (2, .int x2), (3, .int x3), (4, .int x4)] → mm_H D o ad cs s.heap st H locs → W p l e (mm_R 7 185) s m args below meth c H locs 0 0 (MQ below (mm_Ql D o ad cs r st') args s 0 0 (mm_A o ad)) (F0 m 64 ls []) := by
  induction n with
  | zero => exact fun _ _ _ _ _ hf => fc_no hf
  | succ n ih =>
    intro x1 x2 x3 x4 st hf H locs ls hl hM
    exact w_spent_b64F C fu K57 hK57 (fun x1 x2 x3 x4 st => M_spent_b64 fu K57 n x1 x2 x3 x4 st) (fun x1 x2 x3 x4 st H locs ls hf hl hM => ih x1 x2 x3 x4 st hf H locs ls hl hM) x1 x2 x3 x4 st hf hl hM
theorem w_spent_b57F {p : Program} {l : Launch} {e : Env} {s : State} {m : MethodId} {args : Array Value} {below : List Frame} {meth : Method} {c : Code} {D : va_G} {o : Nat} {ad : Nat → Nat} {cs : ClassId × ClassId × ClassId} {r : Int64} {st' : mm_S} (C : mm_C p s m args meth c cX12_spent 8 (some .long) D cs) (fu : Nat) (K57 : Int32 → Int32 → Int32 → mm_S → Option (Int64 × mm_S)) (hK57 : ∀ (x1 : Int32) (x2 : Int32) (x3 : Int32) (st : mm_S) (H : Heap) (locs : List Loc) (ls : Array Slot), K57 x1 x2 x3 st = some (r, st') → lv_has ls 8 [(0, .ref o), (1, .int x1), (2, .int x2), (3, .int x3)] → mm_H D o ad cs s.heap st H locs → W p l e (mm_R 7 185) s m args below meth c H locs 0 0 (MQ below (mm_Ql D o ad cs r st') args s 0 0 (mm_A o ad)) (F0 m 57 ls [])) (x1 : Int32) (x2 : Int32) (x3 : Int32) (st : mm_S) (hf : M_spent_b57F fu K57 x1 x2 x3 st = some (r, st')) {H : Heap} {locs : List Loc} {ls : Array Slot} (hl : lv_has ls 8 [(0, .ref o), (1, .int x1), (2, .int x2), (3, .int x3)]) (hM : mm_H D o ad cs s.heap st H locs) : W p l e (mm_R 7 185) s m args below meth c H locs 0 0 (MQ below (mm_Ql D o ad cs r st') args s 0 0 (mm_A o ad)) (F0 m 57 ls []) := by
  unfold M_spent_b57F at hf
  refine lv_iload_n C.1 C.2.1 (dd_at td_spent 35 rfl) rfl (lv_at hl 3 rfl) ?_
  refine lv_if_lt (tgt := 172) C.1 C.2.1 (dd_at td_spent 36 rfl) (by decide) (fun c10 => ?_) (fun c10 => ?_)
  · replace hf := fc_of_t hf c10
    refine lv_aload_n C.1 C.2.1 (dd_at td_spent 97 rfl) rfl (lv_at hl 0 rfl) ?_
    refine lv_aload_n C.1 C.2.1 (dd_at td_spent 98 rfl) rfl (lv_at hl 0 rfl) ?_
    refine mm_gA C hM 28 (dd_at td_spent 99 rfl) (by decide) (by decide) (by decide) ?_
    refine lv_aload_n C.1 C.2.1 (dd_at td_spent 100 rfl) rfl (lv_at hl 0 rfl) ?_
    refine mm_gI C hM 1 (dd_at td_spent 101 rfl) (by decide) (by decide) (by decide) ?_
    obtain ⟨g11, hf⟩ := fc_of_gd hf
    refine mm_lald C hM 28 (dd_at td_spent 102 rfl) (by decide) (by decide) (fc_of_ix g11) ?_
    refine lv_aload_n C.1 C.2.1 (dd_at td_spent 103 rfl) rfl (lv_at hl 0 rfl) ?_
    refine lv_iload_n C.1 C.2.1 (dd_at td_spent 104 rfl) rfl (lv_at hl 1 rfl) ?_
    obtain ⟨r14, st12, hx13, hf⟩ := fc_of_bn hf
    refine mm_cl (As := [.int x1]) (rest := [.long (mm_L st 28 (mm_I st 1).toNatClampNeg), .ref o]) (n := 1) C hM (c_ways l D o ad cs fu x1 st) (List.mem_of_getElem? (i := 46) rfl) (dd_at td_spent 105 rfl) hx13 hl.1 hd_ways ⟨Nat.le_of_ble_eq_true rfl, Nat.le_of_ble_eq_true rfl⟩ rfl rfl (Nat.le_of_ble_eq_true rfl) ⟨Nat.le_refl 0, Nat.le_refl 0⟩ (fun H locs hM => ?_)
    refine lv_iload_n C.1 C.2.1 (dd_at td_spent 106 rfl) rfl (lv_at hl 2 rfl) ?_
    obtain ⟨r17, st15, hx16, hf⟩ := fc_of_bn hf
    refine mm_cl (As := [.long (mm_L st 28 (mm_I st 1).toNatClampNeg), .long r14, .int x2]) (rest := []) (n := 3) C hM (c_lowest l D o ad cs fu (mm_L st 28 (mm_I st 1).toNatClampNeg) r14 x2 st12) (List.mem_of_getElem? (i := 28) rfl) (dd_at td_spent 107 rfl) hx16 hl.1 hd_lowest ⟨Nat.le_of_ble_eq_true rfl, Nat.le_of_ble_eq_true rfl⟩ rfl rfl (Nat.le_of_ble_eq_true rfl) ⟨Nat.le_refl 0, Nat.le_refl 0⟩ (fun H locs hM => ?_)
    exact mm_rl C hM (dd_at td_spent 108 rfl) hf
  · replace hf := fc_of_f hf c10
    refine lv_iconst (v := (0 : Int32)) C.1 C.2.1 (dd_at td_spent 37 rfl) (by decide) ?_
    refine lv_istore (lv' := [(4, .int (0 : Int32)), (0, .ref o), (1, .int x1), (2, .int x2), (3, .int x3)]) C.1 C.2.1 (dd_at td_spent 38 rfl) hl (by decide) rfl (fun ls hl => ?_)
    exact w_spent_b64 C fu K57 hK57 fu x1 x2 x3 (0 : Int32) st hf _ _ _ (lv_sub hl [1, 2, 3, 4, 0] rfl) hM
theorem w_spent_b57 {p : Program} {l : Launch} {e : Env} {s : State} {m : MethodId} {args : Array Value} {below : List Frame} {meth : Method} {c : Code} {D : va_G} {o : Nat} {ad : Nat → Nat} {cs : ClassId × ClassId × ClassId} {r : Int64} {st' : mm_S} (C : mm_C p s m args meth c cX12_spent 8 (some .long) D cs) (fu : Nat) (n : Nat) : ∀ (x1 : Int32) (x2 : Int32) (x3 : Int32) (st : mm_S), M_spent_b57 fu n x1 x2 x3 st = some (r, st') → ∀ (H : Heap) (locs : List Loc) (ls : Array Slot), lv_has ls 8 [(0, .ref o), (1, .int x1), (2, .int x2), (3, .int x3)] → mm_H D o ad cs s.heap st H locs → W p l e (mm_R 7 185) s m args below meth c H locs 0 0 (MQ below (mm_Ql D o ad cs r st') args s 0 0 (mm_A o ad)) (F0 m 57 ls []) := by
  induction n with
  | zero => exact fun _ _ _ _ hf => fc_no hf
  | succ n ih =>
    intro x1 x2 x3 st hf H locs ls hl hM
    exact w_spent_b57F C fu (fun x1 x2 x3 st => M_spent_b57 fu n x1 x2 x3 st) (fun x1 x2 x3 st H locs ls hf hl hM => ih x1 x2 x3 st hf H locs ls hl hM) x1 x2 x3 st hf hl hM
theorem w_spent_b46 {p : Program} {l : Launch} {e : Env} {s : State} {m : MethodId} {args : Array Value} {below : List Frame} {meth : Method} {c : Code} {D : va_G} {o : Nat} {ad : Nat → Nat} {cs : ClassId × ClassId × ClassId} {r : Int64} {st' : mm_S} (C : mm_C p s m args meth c cX12_spent 8 (some .long) D cs) (fu : Nat) (K21 : Int32 → Int32 → Int32 → mm_S → Option (Int64 × mm_S)) (hK21 : ∀ (x1 : Int32) (x2 : Int32) (x3 : Int32) (st : mm_S) (H : Heap) (locs : List Loc) (ls : Array Slot), K21 x1 x2 x3 st = some (r, st') → lv_has ls 8 [(0, .ref o), (1, .int x1), (2, .int x2), (3, .int x3)] → mm_H D o ad cs s.heap st H locs → W p l e (mm_R 7 185) s m args below meth c H locs 0 0 (MQ below (mm_Ql D o ad cs r st') args s 0 0 (mm_A o ad)) (F0 m 21 ls [])) (x1 : Int32) (x2 : Int32) (x3 : Int32) (s0 : Int64) (s1 : Int32) (st : mm_S) (hf : M_spent_b46 fu K21 x1 x2 x3 s0 s1 st = some (r, st')) {H : Heap} {locs : List Loc} {ls : Array Slot} (hl : lv_has ls 8 [(0, .ref o), (1, .int x1), (2, .int x2), (3, .int x3)]) (hM : mm_H D o ad cs s.heap st H locs) : W p l e (mm_R 7 185) s m args below meth c H locs 0 0 (MQ below (mm_Ql D o ad cs r st') args s 0 0 (mm_A o ad)) (F0 m 46 ls [.long s0, .int s1, .ref (ad 28)]) := by
  unfold M_spent_b46 at hf
  obtain ⟨g18, hf⟩ := fc_of_gd hf
  refine mm_last C hM 28 (dd_at td_spent 28 rfl) (by decide) (by decide) (fc_of_ix g18) (fun st19 H locs est19 hM => ?_)
  replace hf := fc_of_nm hf st19 est19
  obtain ⟨v20, ev20⟩ : ∃ y : Int32, y = x3 + (1 : Int32) := ⟨_, rfl⟩
  replace hf := fc_of_nm hf v20 ev20
  refine lv_iinc (v := v20) (lv' := [(3, .int v20), (0, .ref o), (1, .int x1), (2, .int x2)]) C.1 C.2.1 (dd_at td_spent 29 rfl) hl (k := 3) rfl (by rw [ev20]; rfl) (by decide) rfl (fun ls hl => ?_)
  refine lv_goto (tgt := 21) C.1 C.2.1 (dd_at td_spent 30 rfl) (by decide) ?_
  exact hK21 x1 x2 v20 st19 _ _ _ hf (lv_sub hl [1, 2, 3, 0] rfl) hM
theorem w_spent_b21F {p : Program} {l : Launch} {e : Env} {s : State} {m : MethodId} {args : Array Value} {below : List Frame} {meth : Method} {c : Code} {D : va_G} {o : Nat} {ad : Nat → Nat} {cs : ClassId × ClassId × ClassId} {r : Int64} {st' : mm_S} (C : mm_C p s m args meth c cX12_spent 8 (some .long) D cs) (fu : Nat) (K21 : Int32 → Int32 → Int32 → mm_S → Option (Int64 × mm_S)) (hK21 : ∀ (x1 : Int32) (x2 : Int32) (x3 : Int32) (st : mm_S) (H : Heap) (locs : List Loc) (ls : Array Slot), K21 x1 x2 x3 st = some (r, st') → lv_has ls 8 [(0, .ref o), (1, .int x1), (2, .int x2), (3, .int x3)] → mm_H D o ad cs s.heap st H locs → W p l e (mm_R 7 185) s m args below meth c H locs 0 0 (MQ below (mm_Ql D o ad cs r st') args s 0 0 (mm_A o ad)) (F0 m 21 ls [])) (x1 : Int32) (x2 : Int32) (x3 : Int32) (st : mm_S) (hf : M_spent_b21F fu K21 x1 x2 x3 st = some (r, st')) {H : Heap} {locs : List Loc} {ls : Array Slot} (hl : lv_has ls 8 [(0, .ref o), (1, .int x1), (2, .int x2), (3, .int x3)]) (hM : mm_H D o ad cs s.heap st H locs) : W p l e (mm_R 7 185) s m args below meth c H locs 0 0 (MQ below (mm_Ql D o ad cs r st') args s 0 0 (mm_A o ad)) (F0 m 21 ls []) := by
  unfold M_spent_b21F at hf
  refine lv_iload_n C.1 C.2.1 (dd_at td_spent 13 rfl) rfl (lv_at hl 3 rfl) ?_
  refine lv_bipush (v := (9 : Int32)) C.1 C.2.1 (dd_at td_spent 14 rfl) (by decide) ?_
  refine lv_icmp_ge (tgt := 53) C.1 C.2.1 (dd_at td_spent 15 rfl) (by decide) (fun c7 => ?_) (fun c7 => ?_)
  · replace hf := fc_of_t hf c7
    refine lv_iload_n C.1 C.2.1 (dd_at td_spent 31 rfl) rfl (lv_at hl 1 rfl) ?_
    refine lv_iconst (v := (1 : Int32)) C.1 C.2.1 (dd_at td_spent 32 rfl) (by decide) ?_
    refine lv_isub C.1 C.2.1 (dd_at td_spent 33 rfl) ?_
    refine lv_topi (fun v8 ev8 => ?_)
    replace hf := fc_of_nm hf v8 ev8
    refine lv_istore_n (lv' := [(3, .int v8), (0, .ref o), (1, .int x1), (2, .int x2)]) C.1 C.2.1 (dd_at td_spent 34 rfl) rfl hl (by decide) rfl (fun ls hl => ?_)
    exact w_spent_b57 C fu fu x1 x2 v8 st hf _ _ _ (lv_sub hl [1, 2, 3, 0] rfl) hM
  · replace hf := fc_of_f hf c7
    refine lv_aload_n C.1 C.2.1 (dd_at td_spent 16 rfl) rfl (lv_at hl 0 rfl) ?_
    refine mm_gA C hM 28 (dd_at td_spent 17 rfl) (by decide) (by decide) (by decide) ?_
    refine lv_bipush (v := (10 : Int32)) C.1 C.2.1 (dd_at td_spent 18 rfl) (by decide) ?_
    refine lv_iload_n C.1 C.2.1 (dd_at td_spent 19 rfl) rfl (lv_at hl 1 rfl) ?_
    refine lv_imul C.1 C.2.1 (dd_at td_spent 20 rfl) ?_
    refine lv_iload_n C.1 C.2.1 (dd_at td_spent 21 rfl) rfl (lv_at hl 3 rfl) ?_
    refine lv_iadd C.1 C.2.1 (dd_at td_spent 22 rfl) ?_
    refine lv_iload_n C.1 C.2.1 (dd_at td_spent 23 rfl) rfl (lv_at hl 3 rfl) ?_
    refine lv_if_ne (tgt := 45) C.1 C.2.1 (dd_at td_spent 24 rfl) (by decide) (fun c9 => ?_) (fun c9 => ?_)
    · replace hf := fc_of_f hf c9
      refine lv_lconst (v := (0 : Int64)) C.1 C.2.1 (dd_at td_spent 27 rfl) (by decide) ?_
      exact w_spent_b46 C fu K21 hK21 x1 x2 x3 (0 : Int64) (((10 : Int32) * x1) + x3) st hf (lv_sub hl [0, 1, 2, 3] rfl) hM
    · replace hf := fc_of_t hf c9
      refine lv_lconst (v := (1 : Int64)) C.1 C.2.1 (dd_at td_spent 25 rfl) (by decide) ?_
      refine lv_goto (tgt := 46) C.1 C.2.1 (dd_at td_spent 26 rfl) (by decide) ?_
      exact w_spent_b46 C fu K21 hK21 x1 x2 x3 (1 : Int64) (((10 : Int32) * x1) + x3) st hf (lv_sub hl [0, 1, 2, 3] rfl) hM
theorem w_spent_b21 {p : Program} {l : Launch} {e : Env} {s : State} {m : MethodId} {args : Array Value} {below : List Frame} {meth : Method} {c : Code} {D : va_G} {o : Nat} {ad : Nat → Nat} {cs : ClassId × ClassId × ClassId} {r : Int64} {st' : mm_S} (C : mm_C p s m args meth c cX12_spent 8 (some .long) D cs) (fu : Nat) (n : Nat) : ∀ (x1 : Int32) (x2 : Int32) (x3 : Int32) (st : mm_S), M_spent_b21 fu n x1 x2 x3 st = some (r, st') → ∀ (H : Heap) (locs : List Loc) (ls : Array Slot), lv_has ls 8 [(0, .ref o), (1, .int x1), (2, .int x2), (3, .int x3)] → mm_H D o ad cs s.heap st H locs → W p l e (mm_R 7 185) s m args below meth c H locs 0 0 (MQ below (mm_Ql D o ad cs r st') args s 0 0 (mm_A o ad)) (F0 m 21 ls []) := by
  induction n with
  | zero => exact fun _ _ _ _ hf => fc_no hf
  | succ n ih =>
    intro x1 x2 x3 st hf H locs ls hl hM
    exact w_spent_b21F C fu (fun x1 x2 x3 st => M_spent_b21 fu n x1 x2 x3 st) (fun x1 x2 x3 st H locs ls hf hl hM => ih x1 x2 x3 st hf H locs ls hl hM) x1 x2 x3 st hf hl hM
theorem w_spent {p : Program} {l : Launch} {e : Env} {s : State} {m : MethodId} {args : Array Value} {below : List Frame} {meth : Method} {c : Code} {D : va_G} {o : Nat} {ad : Nat → Nat} {cs : ClassId × ClassId × ClassId} {r : Int64} {st' : mm_S} (C : mm_C p s m args meth c cX12_spent 8 (some .long) D cs) (fu : Nat) (x1 : Int32) (x2 : Int32) (st : mm_S) (hf : M_spent fu x1 x2 st = some (r, st')) {H : Heap} {locs : List Loc} {ls : Array Slot} (hl : lv_has ls 8 [(0, .ref o), (1, .int x1), (2, .int x2)]) (hM : mm_H D o ad cs s.heap st H locs) : W p l e (mm_R 7 185) s m args below meth c H locs 0 0 (MQ below (mm_Ql D o ad cs r st') args s 0 0 (mm_A o ad)) (F0 m 0 ls []) := by
  unfold M_spent at hf
  refine lv_aload_n C.1 C.2.1 (dd_at td_spent 0 rfl) rfl (lv_at hl 0 rfl) ?_
  refine lv_iload_n C.1 C.2.1 (dd_at td_spent 1 rfl) rfl (lv_at hl 1 rfl) ?_
  refine lv_iload_n C.1 C.2.1 (dd_at td_spent 2 rfl) rfl (lv_at hl 2 rfl) ?_
  obtain ⟨r3, st1, hx2, hf⟩ := fc_of_bn hf
  refine mm_ci (As := [.int x1, .int x2]) (rest := []) (n := 2) C hM (c_isAsked l D o ad cs fu x1 x2 st) (List.mem_of_getElem? (i := 19) rfl) (dd_at td_spent 3 rfl) hx2 hl.1 hd_isAsked ⟨Nat.le_of_ble_eq_true rfl, Nat.le_of_ble_eq_true rfl⟩ rfl rfl (Nat.le_of_ble_eq_true rfl) ⟨Nat.le_refl 0, Nat.le_refl 0⟩ (fun H locs hM => ?_)
  refine lv_if_ne (tgt := 13) C.1 C.2.1 (dd_at td_spent 4 rfl) (by decide) (fun c4 => ?_) (fun c4 => ?_)
  · replace hf := fc_of_f hf c4
    refine lv_aload_n C.1 C.2.1 (dd_at td_spent 7 rfl) rfl (lv_at hl 0 rfl) ?_
    refine lv_iconst (v := (0 : Int32)) C.1 C.2.1 (dd_at td_spent 8 rfl) (by decide) ?_
    refine lv_iload_n C.1 C.2.1 (dd_at td_spent 9 rfl) rfl (lv_at hl 1 rfl) ?_
    obtain ⟨st5, hx6, hf⟩ := fc_of_bv hf
    refine mm_cv (As := [.int (0 : Int32), .int x1]) (rest := []) (n := 2) C hM (c_layGains l D o ad cs fu (0 : Int32) x1 st1) (List.mem_of_getElem? (i := 27) rfl) (dd_at td_spent 10 rfl) hx6 hl.1 hd_layGains ⟨Nat.le_of_ble_eq_true rfl, Nat.le_of_ble_eq_true rfl⟩ rfl rfl (Nat.le_of_ble_eq_true rfl) ⟨Nat.le_refl 0, Nat.le_refl 0⟩ (fun H locs hM => ?_)
    refine lv_iconst (v := (0 : Int32)) C.1 C.2.1 (dd_at td_spent 11 rfl) (by decide) ?_
    refine lv_istore_n (lv' := [(3, .int (0 : Int32)), (0, .ref o), (1, .int x1), (2, .int x2)]) C.1 C.2.1 (dd_at td_spent 12 rfl) rfl hl (by decide) rfl (fun ls hl => ?_)
    exact w_spent_b21 C fu fu x1 x2 (0 : Int32) st5 hf _ _ _ (lv_sub hl [1, 2, 3, 0] rfl) hM
  · replace hf := fc_of_t hf c4
    refine lv_ldc2 (v := (-9223372036854775808 : Int64)) C.1 C.2.1 C.2.2.2.2.1 (C.2.2.2.2.2.1 (.constantLong RX12 321 (-9223372036854775808 : Int64)) (mm_Wk (by decide +kernel))) (dd_at td_spent 5 rfl) ?_
    exact mm_rl C hM (dd_at td_spent 6 rfl) hf
theorem c_spent (l : Launch) (D : va_G) (o : Nat) (ad : Nat → Nat) (cs : ClassId × ClassId × ClassId) (fu : Nat) (x1 : Int32) (x2 : Int32) (st : mm_S) : mm_Ml l D o ad cs yX12_spent cX12_spent 8 (some .long) 7 185 [.int x1, .int x2] st (M_spent fu x1 x2 st) := by
  intro r st' hf
  refine mm_enter (cc := cX12_spent) (nL := 8) (ret := some .long) (by decide) rfl (Nat.le_of_ble_eq_true rfl) ?_
  intro p e s m args below meth c ls C hl hM
  exact w_spent C fu x1 x2 st hf hl hM

/-! threshold -/
def tb_threshold : List (Nat × Instr × Nat) := [(0, .aload_n 0, 1), (1, .iload_n 1, 1), (2, .iconst 1, 1), (3, .bipush 8, 2), (5, .invokevirtual 207, 3), (8, .ifCond .ne 6, 3), (11, .bipush (-2), 2), (13, .ireturn, 1), (14, .aload_n 0, 1), (15, .getfield 13, 3), (18, .ifCond .eq 10, 3), (21, .aload_n 0, 1), (22, .getfield 7, 3), (25, .ifCond .ne 6, 3), (28, .bipush (-5), 2), (30, .ireturn, 1), (31, .aload_n 0, 1), (32, .iconst 0, 1), (33, .iload_n 1, 1), (34, .invokevirtual 323, 3), (37, .aload_n 0, 1), (38, .iconst 0, 1), (39, .iload_n 1, 1), (40, .aload_n 0, 1), (41, .getfield 13, 3), (44, .invokevirtual 299, 3), (47, .lstore_n 2, 1), (48, .iconst 0, 1), (49, .istore 4, 2), (51, .iload 4, 2), (53, .sipush 1000, 3), (56, .if_icmp .ge 55, 3), (59, .aload_n 0, 1), (60, .iload_n 1, 1), (61, .iconst 1, 1), (62, .isub, 1), (63, .invokevirtual 295, 3), (66, .iload 4, 2), (68, .aload_n 0, 1), (69, .invokevirtual 289, 3), (72, .aload_n 0, 1), (73, .getfield 13, 3), (76, .iconst 1, 1), (77, .isub, 1), (78, .imul, 1), (79, .isub, 1), (80, .i2l, 1), (81, .lmul, 1), (82, .aload_n 0, 1), (83, .getfield 90, 3), (86, .bipush 10, 2), (88, .aload_n 0, 1), (89, .getfield 13, 3), (92, .iadd, 1), (93, .iconst 1, 1), (94, .isub, 1), (95, .laload, 1), (96, .ladd, 1), (97, .lload_n 2, 1), (98, .lcmp, 1), (99, .ifCond .le 6, 3), (102, .iload 4, 2), (104, .ireturn, 1), (105, .iinc 4 1, 3), (108, .goto (-57), 3), (111, .bipush (-5), 2), (113, .ireturn, 1)]
theorem td_threshold : tb_threshold.all (fun q => decide (decode cX12_threshold q.1 = .ok (q.2.1, q.2.2))) = true := by decide +kernel
theorem w_threshold_b51F {p : Program} {l : Launch} {e : Env} {s : State} {m : MethodId} {args : Array Value} {below : List Frame} {meth : Method} {c : Code} {D : va_G} {o : Nat} {ad : Nat → Nat} {cs : ClassId × ClassId × ClassId} {r : Int32} {st' : mm_S} (C : mm_C p s m args meth c cX12_threshold 5 (some .int) D cs) (fu : Nat) (K51 : Int32 → Int64 → Int32 → mm_S → Option (Int32 × mm_S)) (hK51 : ∀ (x1 : Int32) (x2 : Int64) (x4 : Int32) (st : mm_S) (H : Heap) (locs : List Loc) (ls : Array Slot), K51 x1 x2 x4 st = some (r, st') → lv_has ls 5 [(0, .ref o), (1, .int x1), (2, .long x2), (4, .int x4)] → mm_H D o ad cs s.heap st H locs → W p l e (mm_R 7 185) s m args below meth c H locs 0 0 (MQ below (mm_Qi D o ad cs r st') args s 0 0 (mm_A o ad)) (F0 m 51 ls [])) (x1 : Int32) (x2 : Int64) (x4 : Int32) (st : mm_S) (hf : M_threshold_b51F fu K51 x1 x2 x4 st = some (r, st')) {H : Heap} {locs : List Loc} {ls : Array Slot} (hl : lv_has ls 5 [(0, .ref o), (1, .int x1), (2, .long x2), (4, .int x4)]) (hM : mm_H D o ad cs s.heap st H locs) : W p l e (mm_R 7 185) s m args below meth c H locs 0 0 (MQ below (mm_Qi D o ad cs r st') args s 0 0 (mm_A o ad)) (F0 m 51 ls []) := by
  unfold M_threshold_b51F at hf
  refine lv_iload C.1 C.2.1 (dd_at td_threshold 29 rfl) (lv_at hl 3 rfl) ?_
  refine lv_sipush (v := (1000 : Int32)) C.1 C.2.1 (dd_at td_threshold 30 rfl) (by decide) ?_
  refine lv_icmp_ge (tgt := 111) C.1 C.2.1 (dd_at td_threshold 31 rfl) (by decide) (fun c12 => ?_) (fun c12 => ?_)
  · replace hf := fc_of_t hf c12
    refine lv_bipush (v := (-5 : Int32)) C.1 C.2.1 (dd_at td_threshold 65 rfl) (by decide) ?_
    exact mm_ri C hM (dd_at td_threshold 66 rfl) hf
  · replace hf := fc_of_f hf c12
    refine lv_aload_n C.1 C.2.1 (dd_at td_threshold 32 rfl) rfl (lv_at hl 0 rfl) ?_
    refine lv_iload_n C.1 C.2.1 (dd_at td_threshold 33 rfl) rfl (lv_at hl 1 rfl) ?_
    refine lv_iconst (v := (1 : Int32)) C.1 C.2.1 (dd_at td_threshold 34 rfl) (by decide) ?_
    refine lv_isub C.1 C.2.1 (dd_at td_threshold 35 rfl) ?_
    obtain ⟨r15, st13, hx14, hf⟩ := fc_of_bn hf
    refine mm_cl (As := [.int (x1 - (1 : Int32))]) (rest := []) (n := 1) C hM (c_ways l D o ad cs fu (x1 - (1 : Int32)) st) (List.mem_of_getElem? (i := 46) rfl) (dd_at td_threshold 36 rfl) hx14 hl.1 hd_ways ⟨Nat.le_of_ble_eq_true rfl, Nat.le_of_ble_eq_true rfl⟩ rfl rfl (Nat.le_of_ble_eq_true rfl) ⟨Nat.le_refl 0, Nat.le_refl 0⟩ (fun H locs hM => ?_)
    refine lv_iload C.1 C.2.1 (dd_at td_threshold 37 rfl) (lv_at hl 3 rfl) ?_
    refine lv_aload_n C.1 C.2.1 (dd_at td_threshold 38 rfl) rfl (lv_at hl 0 rfl) ?_
    obtain ⟨r18, st16, hx17, hf⟩ := fc_of_bn hf
    refine mm_ci (As := []) (rest := [.int x4, .long r15]) (n := 0) C hM (c_keep l D o ad cs fu st13) (List.mem_of_getElem? (i := 26) rfl) (dd_at td_threshold 39 rfl) hx17 hl.1 hd_keep ⟨Nat.le_of_ble_eq_true rfl, Nat.le_of_ble_eq_true rfl⟩ rfl rfl (Nat.le_of_ble_eq_true rfl) ⟨Nat.le_refl 0, Nat.le_refl 0⟩ (fun H locs hM => ?_)
    refine lv_aload_n C.1 C.2.1 (dd_at td_threshold 40 rfl) rfl (lv_at hl 0 rfl) ?_
    refine mm_gI C hM 1 (dd_at td_threshold 41 rfl) (by decide) (by decide) (by decide) ?_
    refine lv_iconst (v := (1 : Int32)) C.1 C.2.1 (dd_at td_threshold 42 rfl) (by decide) ?_
    refine lv_isub C.1 C.2.1 (dd_at td_threshold 43 rfl) ?_
    refine lv_imul C.1 C.2.1 (dd_at td_threshold 44 rfl) ?_
    refine lv_isub C.1 C.2.1 (dd_at td_threshold 45 rfl) ?_
    refine lv_i2l C.1 C.2.1 (dd_at td_threshold 46 rfl) rfl ?_
    refine lv_lmul C.1 C.2.1 (dd_at td_threshold 47 rfl) ?_
    refine lv_aload_n C.1 C.2.1 (dd_at td_threshold 48 rfl) rfl (lv_at hl 0 rfl) ?_
    refine mm_gA C hM 26 (dd_at td_threshold 49 rfl) (by decide) (by decide) (by decide) ?_
    refine lv_bipush (v := (10 : Int32)) C.1 C.2.1 (dd_at td_threshold 50 rfl) (by decide) ?_
    refine lv_aload_n C.1 C.2.1 (dd_at td_threshold 51 rfl) rfl (lv_at hl 0 rfl) ?_
    refine mm_gI C hM 1 (dd_at td_threshold 52 rfl) (by decide) (by decide) (by decide) ?_
    refine lv_iadd C.1 C.2.1 (dd_at td_threshold 53 rfl) ?_
    refine lv_iconst (v := (1 : Int32)) C.1 C.2.1 (dd_at td_threshold 54 rfl) (by decide) ?_
    refine lv_isub C.1 C.2.1 (dd_at td_threshold 55 rfl) ?_
    obtain ⟨g19, hf⟩ := fc_of_gd hf
    refine mm_lald C hM 26 (dd_at td_threshold 56 rfl) (by decide) (by decide) (fc_of_ix g19) ?_
    refine lv_ladd C.1 C.2.1 (dd_at td_threshold 57 rfl) ?_
    refine lv_lload_n C.1 C.2.1 (dd_at td_threshold 58 rfl) rfl (lv_at hl 2 rfl) ?_
    refine W.lcmp C.1 C.2.1 (dd_at td_threshold 59 rfl) ?_
    refine lv_if_le (tgt := 105) C.1 C.2.1 (dd_at td_threshold 60 rfl) (by decide) (fun c20 => ?_) (fun c20 => ?_)
    · replace hf := fc_of_t hf c20
      obtain ⟨v21, ev21⟩ : ∃ y : Int32, y = x4 + (1 : Int32) := ⟨_, rfl⟩
      replace hf := fc_of_nm hf v21 ev21
      refine lv_iinc (v := v21) (lv' := [(4, .int v21), (0, .ref o), (1, .int x1), (2, .long x2)]) C.1 C.2.1 (dd_at td_threshold 63 rfl) hl (k := 3) rfl (by rw [ev21]; rfl) (by decide) rfl (fun ls hl => ?_)
      refine lv_goto (tgt := 51) C.1 C.2.1 (dd_at td_threshold 64 rfl) (by decide) ?_
      exact hK51 x1 x2 v21 st16 _ _ _ hf (lv_sub hl [1, 2, 3, 0] rfl) hM
    · replace hf := fc_of_f hf c20
      refine lv_iload C.1 C.2.1 (dd_at td_threshold 61 rfl) (lv_at hl 3 rfl) ?_
      exact mm_ri C hM (dd_at td_threshold 62 rfl) hf
theorem w_threshold_b51 {p : Program} {l : Launch} {e : Env} {s : State} {m : MethodId} {args : Array Value} {below : List Frame} {meth : Method} {c : Code} {D : va_G} {o : Nat} {ad : Nat → Nat} {cs : ClassId × ClassId × ClassId} {r : Int32} {st' : mm_S} (C : mm_C p s m args meth c cX12_threshold 5 (some .int) D cs) (fu : Nat) (n : Nat) : ∀ (x1 : Int32) (x2 : Int64) (x4 : Int32) (st : mm_S), M_threshold_b51 fu n x1 x2 x4 st = some (r, st') → ∀ (H : Heap) (locs : List Loc) (ls : Array Slot), lv_has ls 5 [(0, .ref o), (1, .int x1), (2, .long x2), (4, .int x4)] → mm_H D o ad cs s.heap st H locs → W p l e (mm_R 7 185) s m args below meth c H locs 0 0 (MQ below (mm_Qi D o ad cs r st') args s 0 0 (mm_A o ad)) (F0 m 51 ls []) := by
  induction n with
  | zero => exact fun _ _ _ _ hf => fc_no hf
  | succ n ih =>
    intro x1 x2 x4 st hf H locs ls hl hM
    exact w_threshold_b51F C fu (fun x1 x2 x4 st => M_threshold_b51 fu n x1 x2 x4 st) (fun x1 x2 x4 st H locs ls hf hl hM => ih x1 x2 x4 st hf H locs ls hl hM) x1 x2 x4 st hf hl hM
theorem w_threshold {p : Program} {l : Launch} {e : Env} {s : State} {m : MethodId} {args : Array Value} {below : List Frame} {meth : Method} {c : Code} {D : va_G} {o : Nat} {ad : Nat → Nat} {cs : ClassId × ClassId × ClassId} {r : Int32} {st' : mm_S} (C : mm_C p s m args meth c cX12_threshold 5 (some .int) D cs) (fu : Nat) (x1 : Int32) (st : mm_S) (hf : M_threshold fu x1 st = some (r, st')) {H : Heap} {locs : List Loc} {ls : Array Slot} (hl : lv_has ls 5 [(0, .ref o), (1, .int x1)]) (hM : mm_H D o ad cs s.heap st H locs) : W p l e (mm_R 7 185) s m args below meth c H locs 0 0 (MQ below (mm_Qi D o ad cs r st') args s 0 0 (mm_A o ad)) (F0 m 0 ls []) := by
  unfold M_threshold at hf
  refine lv_aload_n C.1 C.2.1 (dd_at td_threshold 0 rfl) rfl (lv_at hl 0 rfl) ?_
  refine lv_iload_n C.1 C.2.1 (dd_at td_threshold 1 rfl) rfl (lv_at hl 1 rfl) ?_
  refine lv_iconst (v := (1 : Int32)) C.1 C.2.1 (dd_at td_threshold 2 rfl) (by decide) ?_
  refine lv_bipush (v := (8 : Int32)) C.1 C.2.1 (dd_at td_threshold 3 rfl) (by decide) ?_
  obtain ⟨r3, st1, hx2, hf⟩ := fc_of_bn hf
  refine mm_ci (As := [.int x1, .int (1 : Int32), .int (8 : Int32)]) (rest := []) (n := 3) C hM (c_in l D o ad cs fu x1 (1 : Int32) (8 : Int32) st) (List.mem_of_getElem? (i := 18) rfl) (dd_at td_threshold 4 rfl) hx2 hl.1 hd_in ⟨Nat.le_of_ble_eq_true rfl, Nat.le_of_ble_eq_true rfl⟩ rfl rfl (Nat.le_of_ble_eq_true rfl) ⟨Nat.le_refl 0, Nat.le_refl 0⟩ (fun H locs hM => ?_)
  refine lv_if_ne (tgt := 14) C.1 C.2.1 (dd_at td_threshold 5 rfl) (by decide) (fun c4 => ?_) (fun c4 => ?_)
  · replace hf := fc_of_f hf c4
    refine lv_aload_n C.1 C.2.1 (dd_at td_threshold 8 rfl) rfl (lv_at hl 0 rfl) ?_
    refine mm_gI C hM 1 (dd_at td_threshold 9 rfl) (by decide) (by decide) (by decide) ?_
    refine lv_if_eq (tgt := 28) C.1 C.2.1 (dd_at td_threshold 10 rfl) (by decide) (fun c5 => ?_) (fun c5 => ?_)
    · replace hf := fc_of_t hf c5
      refine lv_bipush (v := (-5 : Int32)) C.1 C.2.1 (dd_at td_threshold 14 rfl) (by decide) ?_
      exact mm_ri C hM (dd_at td_threshold 15 rfl) hf
    · replace hf := fc_of_f hf c5
      refine lv_aload_n C.1 C.2.1 (dd_at td_threshold 11 rfl) rfl (lv_at hl 0 rfl) ?_
      refine mm_gI C hM 0 (dd_at td_threshold 12 rfl) (by decide) (by decide) (by decide) ?_
      refine lv_if_ne (tgt := 31) C.1 C.2.1 (dd_at td_threshold 13 rfl) (by decide) (fun c6 => ?_) (fun c6 => ?_)
      · replace hf := fc_of_f hf c6
        refine lv_aload_n C.1 C.2.1 (dd_at td_threshold 16 rfl) rfl (lv_at hl 0 rfl) ?_
        refine lv_iconst (v := (0 : Int32)) C.1 C.2.1 (dd_at td_threshold 17 rfl) (by decide) ?_
        refine lv_iload_n C.1 C.2.1 (dd_at td_threshold 18 rfl) rfl (lv_at hl 1 rfl) ?_
        obtain ⟨st7, hx8, hf⟩ := fc_of_bv hf
        refine mm_cv (As := [.int (0 : Int32), .int x1]) (rest := []) (n := 2) C hM (c_layGains l D o ad cs fu (0 : Int32) x1 st1) (List.mem_of_getElem? (i := 27) rfl) (dd_at td_threshold 19 rfl) hx8 hl.1 hd_layGains ⟨Nat.le_of_ble_eq_true rfl, Nat.le_of_ble_eq_true rfl⟩ rfl rfl (Nat.le_of_ble_eq_true rfl) ⟨Nat.le_refl 0, Nat.le_refl 0⟩ (fun H locs hM => ?_)
        refine lv_aload_n C.1 C.2.1 (dd_at td_threshold 20 rfl) rfl (lv_at hl 0 rfl) ?_
        refine lv_iconst (v := (0 : Int32)) C.1 C.2.1 (dd_at td_threshold 21 rfl) (by decide) ?_
        refine lv_iload_n C.1 C.2.1 (dd_at td_threshold 22 rfl) rfl (lv_at hl 1 rfl) ?_
        refine lv_aload_n C.1 C.2.1 (dd_at td_threshold 23 rfl) rfl (lv_at hl 0 rfl) ?_
        refine mm_gI C hM 1 (dd_at td_threshold 24 rfl) (by decide) (by decide) (by decide) ?_
        obtain ⟨r11, st9, hx10, hf⟩ := fc_of_bn hf
        refine mm_cl (As := [.int (0 : Int32), .int x1, .int (mm_I st7 1)]) (rest := []) (n := 3) C hM (c_ifSpared l D o ad cs fu (0 : Int32) x1 (mm_I st7 1) st7) (List.mem_of_getElem? (i := 17) rfl) (dd_at td_threshold 25 rfl) hx10 hl.1 hd_ifSpared ⟨Nat.le_of_ble_eq_true rfl, Nat.le_of_ble_eq_true rfl⟩ rfl rfl (Nat.le_of_ble_eq_true rfl) ⟨Nat.le_refl 0, Nat.le_refl 0⟩ (fun H locs hM => ?_)
        refine lv_lstore_n (lv' := [(2, .long r11), (0, .ref o), (1, .int x1)]) C.1 C.2.1 (dd_at td_threshold 26 rfl) rfl hl (by decide) rfl (fun ls hl => ?_)
        refine lv_iconst (v := (0 : Int32)) C.1 C.2.1 (dd_at td_threshold 27 rfl) (by decide) ?_
        refine lv_istore (lv' := [(4, .int (0 : Int32)), (2, .long r11), (0, .ref o), (1, .int x1)]) C.1 C.2.1 (dd_at td_threshold 28 rfl) hl (by decide) rfl (fun ls hl => ?_)
        exact w_threshold_b51 C fu fu x1 r11 (0 : Int32) st9 hf _ _ _ (lv_sub hl [2, 3, 1, 0] rfl) hM
      · replace hf := fc_of_t hf c6
        refine lv_bipush (v := (-5 : Int32)) C.1 C.2.1 (dd_at td_threshold 14 rfl) (by decide) ?_
        exact mm_ri C hM (dd_at td_threshold 15 rfl) hf
  · replace hf := fc_of_t hf c4
    refine lv_bipush (v := (-2 : Int32)) C.1 C.2.1 (dd_at td_threshold 6 rfl) (by decide) ?_
    exact mm_ri C hM (dd_at td_threshold 7 rfl) hf
theorem c_threshold (l : Launch) (D : va_G) (o : Nat) (ad : Nat → Nat) (cs : ClassId × ClassId × ClassId) (fu : Nat) (x1 : Int32) (st : mm_S) : mm_Mi l D o ad cs yX12_threshold cX12_threshold 5 (some .int) 7 185 [.int x1] st (M_threshold fu x1 st) := by
  intro r st' hf
  refine mm_enter (cc := cX12_threshold) (nL := 5) (ret := some .int) (by decide) rfl (Nat.le_of_ble_eq_true rfl) ?_
  intro p e s m args below meth c ls C hl hM
  exact w_threshold C fu x1 st hf hl hM

/-! century -/
def tb_century : List (Nat × Instr × Nat) := [(0, .iload_n 1, 1), (1, .iconst (-1), 1), (2, .if_icmp .ne 10, 3), (5, .aload_n 0, 1), (6, .iconst 0, 1), (7, .putfield 100, 3), (10, .iconst 0, 1), (11, .ireturn, 1), (12, .aload_n 0, 1), (13, .iload_n 1, 1), (14, .invokevirtual 215, 3), (17, .ifCond .ne 5, 3), (20, .iconst (-1), 1), (21, .ireturn, 1), (22, .aload_n 0, 1), (23, .getfield 100, 3), (26, .bipush 8, 2), (28, .if_icmp .ne 6, 3), (31, .bipush (-4), 2), (33, .ireturn, 1), (34, .aload_n 0, 1), (35, .getfield 103, 3), (38, .aload_n 0, 1), (39, .getfield 100, 3), (42, .iload_n 1, 1), (43, .iastore, 1), (44, .aload_n 0, 1), (45, .dup, 1), (46, .getfield 100, 3), (49, .iconst 1, 1), (50, .iadd, 1), (51, .putfield 100, 3), (54, .aload_n 0, 1), (55, .getfield 100, 3), (58, .ireturn, 1)]
theorem td_century : tb_century.all (fun q => decide (decode cX12_century q.1 = .ok (q.2.1, q.2.2))) = true := by decide +kernel
theorem w_century {p : Program} {l : Launch} {e : Env} {s : State} {m : MethodId} {args : Array Value} {below : List Frame} {meth : Method} {c : Code} {D : va_G} {o : Nat} {ad : Nat → Nat} {cs : ClassId × ClassId × ClassId} {r : Int32} {st' : mm_S} (C : mm_C p s m args meth c cX12_century 2 (some .int) D cs) (fu : Nat) (x1 : Int32) (st : mm_S) (hf : M_century fu x1 st = some (r, st')) {H : Heap} {locs : List Loc} {ls : Array Slot} (hl : lv_has ls 2 [(0, .ref o), (1, .int x1)]) (hM : mm_H D o ad cs s.heap st H locs) : W p l e (mm_R 2 44) s m args below meth c H locs 0 0 (MQ below (mm_Qi D o ad cs r st') args s 0 0 (mm_A o ad)) (F0 m 0 ls []) := by
  unfold M_century at hf
  refine lv_iload_n C.1 C.2.1 (dd_at td_century 0 rfl) rfl (lv_at hl 1 rfl) ?_
  refine lv_iconst (v := (-1 : Int32)) C.1 C.2.1 (dd_at td_century 1 rfl) (by decide) ?_
  refine lv_icmp_ne (tgt := 12) C.1 C.2.1 (dd_at td_century 2 rfl) (by decide) (fun c1 => ?_) (fun c1 => ?_)
  · replace hf := fc_of_f hf c1
    refine lv_aload_n C.1 C.2.1 (dd_at td_century 8 rfl) rfl (lv_at hl 0 rfl) ?_
    refine lv_iload_n C.1 C.2.1 (dd_at td_century 9 rfl) rfl (lv_at hl 1 rfl) ?_
    obtain ⟨r4, st2, hx3, hf⟩ := fc_of_bn hf
    refine mm_ci (As := [.int x1]) (rest := []) (n := 1) C hM (c_isNeed l D o ad cs fu x1 st) (List.mem_of_getElem? (i := 22) rfl) (dd_at td_century 10 rfl) hx3 hl.1 hd_isNeed ⟨Nat.le_of_ble_eq_true rfl, Nat.le_of_ble_eq_true rfl⟩ rfl rfl (Nat.le_of_ble_eq_true rfl) ⟨Nat.le_refl 0, Nat.le_refl 0⟩ (fun H locs hM => ?_)
    refine lv_if_ne (tgt := 22) C.1 C.2.1 (dd_at td_century 11 rfl) (by decide) (fun c5 => ?_) (fun c5 => ?_)
    · replace hf := fc_of_f hf c5
      refine lv_aload_n C.1 C.2.1 (dd_at td_century 14 rfl) rfl (lv_at hl 0 rfl) ?_
      refine mm_gI C hM 29 (dd_at td_century 15 rfl) (by decide) (by decide) (by decide) ?_
      refine lv_bipush (v := (8 : Int32)) C.1 C.2.1 (dd_at td_century 16 rfl) (by decide) ?_
      refine lv_icmp_ne (tgt := 34) C.1 C.2.1 (dd_at td_century 17 rfl) (by decide) (fun c6 => ?_) (fun c6 => ?_)
      · replace hf := fc_of_f hf c6
        refine lv_aload_n C.1 C.2.1 (dd_at td_century 20 rfl) rfl (lv_at hl 0 rfl) ?_
        refine mm_gA C hM 30 (dd_at td_century 21 rfl) (by decide) (by decide) (by decide) ?_
        refine lv_aload_n C.1 C.2.1 (dd_at td_century 22 rfl) rfl (lv_at hl 0 rfl) ?_
        refine mm_gI C hM 29 (dd_at td_century 23 rfl) (by decide) (by decide) (by decide) ?_
        refine lv_iload_n C.1 C.2.1 (dd_at td_century 24 rfl) rfl (lv_at hl 1 rfl) ?_
        obtain ⟨g7, hf⟩ := fc_of_gd hf
        refine mm_iast C hM 30 (dd_at td_century 25 rfl) (by decide) (by decide) (fc_of_ix g7) (fun st8 H locs est8 hM => ?_)
        replace hf := fc_of_nm hf st8 est8
        refine lv_aload_n C.1 C.2.1 (dd_at td_century 26 rfl) rfl (lv_at hl 0 rfl) ?_
        refine lv_dup C.1 C.2.1 (dd_at td_century 27 rfl) rfl ?_
        refine mm_gI C hM 29 (dd_at td_century 28 rfl) (by decide) (by decide) (by decide) ?_
        refine lv_iconst (v := (1 : Int32)) C.1 C.2.1 (dd_at td_century 29 rfl) (by decide) ?_
        refine lv_iadd C.1 C.2.1 (dd_at td_century 30 rfl) ?_
        refine mm_pI C hM 29 (dd_at td_century 31 rfl) (by decide) (by decide) (by decide) rfl rfl (fun st9 H locs est9 hM => ?_)
        replace hf := fc_of_nm hf st9 est9
        refine lv_aload_n C.1 C.2.1 (dd_at td_century 32 rfl) rfl (lv_at hl 0 rfl) ?_
        refine mm_gI C hM 29 (dd_at td_century 33 rfl) (by decide) (by decide) (by decide) ?_
        exact mm_ri C hM (dd_at td_century 34 rfl) hf
      · replace hf := fc_of_t hf c6
        refine lv_bipush (v := (-4 : Int32)) C.1 C.2.1 (dd_at td_century 18 rfl) (by decide) ?_
        exact mm_ri C hM (dd_at td_century 19 rfl) hf
    · replace hf := fc_of_t hf c5
      refine lv_iconst (v := (-1 : Int32)) C.1 C.2.1 (dd_at td_century 12 rfl) (by decide) ?_
      exact mm_ri C hM (dd_at td_century 13 rfl) hf
  · replace hf := fc_of_t hf c1
    refine lv_aload_n C.1 C.2.1 (dd_at td_century 3 rfl) rfl (lv_at hl 0 rfl) ?_
    refine lv_iconst (v := (0 : Int32)) C.1 C.2.1 (dd_at td_century 4 rfl) (by decide) ?_
    refine mm_pI C hM 29 (dd_at td_century 5 rfl) (by decide) (by decide) (by decide) rfl rfl (fun st10 H locs est10 hM => ?_)
    replace hf := fc_of_nm hf st10 est10
    refine lv_iconst (v := (0 : Int32)) C.1 C.2.1 (dd_at td_century 6 rfl) (by decide) ?_
    exact mm_ri C hM (dd_at td_century 7 rfl) hf
theorem c_century (l : Launch) (D : va_G) (o : Nat) (ad : Nat → Nat) (cs : ClassId × ClassId × ClassId) (fu : Nat) (x1 : Int32) (st : mm_S) : mm_Mi l D o ad cs yX12_century cX12_century 2 (some .int) 2 44 [.int x1] st (M_century fu x1 st) := by
  intro r st' hf
  refine mm_enter (cc := cX12_century) (nL := 2) (ret := some .int) (by decide) rfl (Nat.le_of_ble_eq_true rfl) ?_
  intro p e s m args below meth c ls C hl hM
  exact w_century C fu x1 st hf hl hM

/-! gainBy -/
def tb_gainBy : List (Nat × Instr × Nat) := [(0, .aload_n 0, 1), (1, .getfield 13, 3), (4, .istore_n 2, 1), (5, .iconst 0, 1), (6, .istore_n 3, 1), (7, .iconst 0, 1), (8, .istore 4, 2), (10, .iload 4, 2), (12, .aload_n 0, 1), (13, .getfield 100, 3), (16, .if_icmp .ge 57, 3), (19, .aload_n 0, 1), (20, .iload_n 1, 1), (21, .iload 4, 2), (23, .invokevirtual 203, 3), (26, .ifCond .eq 32, 3), (29, .iload_n 2, 1), (30, .ifCond .le 28, 3), (33, .iload_n 3, 1), (34, .aload_n 0, 1), (35, .aload_n 0, 1), (36, .getfield 103, 3), (39, .iload 4, 2), (41, .iaload, 1), (42, .aload_n 0, 1), (43, .getfield 19, 3), (46, .iload 4, 2), (48, .iadd, 1), (49, .iload_n 2, 1), (50, .invokevirtual 282, 3), (53, .iadd, 1), (54, .istore_n 3, 1), (55, .iinc 2 (-1), 3), (58, .iload_n 3, 1), (59, .aload_n 0, 1), (60, .invokevirtual 289, 3), (63, .iload_n 2, 1), (64, .imul, 1), (65, .isub, 1), (66, .istore_n 3, 1), (67, .iinc 4 1, 3), (70, .goto (-60), 3), (73, .iload_n 3, 1), (74, .ireturn, 1)]
theorem td_gainBy : tb_gainBy.all (fun q => decide (decode cX12_gainBy q.1 = .ok (q.2.1, q.2.2))) = true := by decide +kernel
theorem hd_gainBy : yX12_gainBy.cls = RX12 ∧ yX12_gainBy.cls ≠ "java/lang/invoke/MethodHandle" ∧ yX12_gainBy.cls ≠ "java/lang/invoke/VarHandle" ∧ (parseMethodDescriptor yX12_gainBy.desc).map (fun d => d.parameters.length) = some 1 := by decide +kernel
theorem w_gainBy_b58 {p : Program} {l : Launch} {e : Env} {s : State} {m : MethodId} {args : Array Value} {below : List Frame} {meth : Method} {c : Code} {D : va_G} {o : Nat} {ad : Nat → Nat} {cs : ClassId × ClassId × ClassId} {r : Int32} {st' : mm_S} (C : mm_C p s m args meth c cX12_gainBy 5 (some .int) D cs) (fu : Nat) (K10 : Int32 → Int32 → Int32 → Int32 → mm_S → Option (Int32 × mm_S)) (hK10 : ∀ (x1 : Int32) (x2 : Int32) (x3 : Int32) (x4 : Int32) (st : mm_S) (H : Heap) (locs : List Loc) (ls : Array Slot), K10 x1 x2 x3 x4 st = some (r, st') → lv_has ls 5 [(0, .ref o), (1, .int x1), (2, .int x2), (3, .int x3), (4, .int x4)] → mm_H D o ad cs s.heap st H locs → W p l e (mm_R 4 104) s m args below meth c H locs 0 0 (MQ below (mm_Qi D o ad cs r st') args s 0 0 (mm_A o ad)) (F0 m 10 ls [])) (x1 : Int32) (x2 : Int32) (x3 : Int32) (x4 : Int32) (st : mm_S) (hf : M_gainBy_b58 fu K10 x1 x2 x3 x4 st = some (r, st')) {H : Heap} {locs : List Loc} {ls : Array Slot} (hl : lv_has ls 5 [(0, .ref o), (1, .int x1), (2, .int x2), (3, .int x3), (4, .int x4)]) (hM : mm_H D o ad cs s.heap st H locs) : W p l e (mm_R 4 104) s m args below meth c H locs 0 0 (MQ below (mm_Qi D o ad cs r st') args s 0 0 (mm_A o ad)) (F0 m 58 ls []) := by
  unfold M_gainBy_b58 at hf
  refine lv_iload_n C.1 C.2.1 (dd_at td_gainBy 33 rfl) rfl (lv_at hl 3 rfl) ?_
  refine lv_aload_n C.1 C.2.1 (dd_at td_gainBy 34 rfl) rfl (lv_at hl 0 rfl) ?_
  obtain ⟨r16, st14, hx15, hf⟩ := fc_of_bn hf
  refine mm_ci (As := []) (rest := [.int x3]) (n := 0) C hM (c_keep l D o ad cs fu st) (List.mem_of_getElem? (i := 26) rfl) (dd_at td_gainBy 35 rfl) hx15 hl.1 hd_keep ⟨Nat.le_of_ble_eq_true rfl, Nat.le_of_ble_eq_true rfl⟩ rfl rfl (Nat.le_of_ble_eq_true rfl) ⟨Nat.le_refl 0, Nat.le_refl 0⟩ (fun H locs hM => ?_)
  refine lv_iload_n C.1 C.2.1 (dd_at td_gainBy 36 rfl) rfl (lv_at hl 2 rfl) ?_
  refine lv_imul C.1 C.2.1 (dd_at td_gainBy 37 rfl) ?_
  refine lv_isub C.1 C.2.1 (dd_at td_gainBy 38 rfl) ?_
  refine lv_topi (fun v17 ev17 => ?_)
  replace hf := fc_of_nm hf v17 ev17
  refine lv_istore_n (lv' := [(3, .int v17), (0, .ref o), (1, .int x1), (2, .int x2), (4, .int x4)]) C.1 C.2.1 (dd_at td_gainBy 39 rfl) rfl hl (by decide) rfl (fun ls hl => ?_)
  obtain ⟨v18, ev18⟩ : ∃ y : Int32, y = x4 + (1 : Int32) := ⟨_, rfl⟩
  replace hf := fc_of_nm hf v18 ev18
  refine lv_iinc (v := v18) (lv' := [(4, .int v18), (3, .int v17), (0, .ref o), (1, .int x1), (2, .int x2)]) C.1 C.2.1 (dd_at td_gainBy 40 rfl) hl (k := 4) rfl (by rw [ev18]; rfl) (by decide) rfl (fun ls hl => ?_)
  refine lv_goto (tgt := 10) C.1 C.2.1 (dd_at td_gainBy 41 rfl) (by decide) ?_
  exact hK10 x1 x2 v17 v18 st14 _ _ _ hf (lv_sub hl [2, 3, 4, 1, 0] rfl) hM
theorem w_gainBy_b10F {p : Program} {l : Launch} {e : Env} {s : State} {m : MethodId} {args : Array Value} {below : List Frame} {meth : Method} {c : Code} {D : va_G} {o : Nat} {ad : Nat → Nat} {cs : ClassId × ClassId × ClassId} {r : Int32} {st' : mm_S} (C : mm_C p s m args meth c cX12_gainBy 5 (some .int) D cs) (fu : Nat) (K10 : Int32 → Int32 → Int32 → Int32 → mm_S → Option (Int32 × mm_S)) (hK10 : ∀ (x1 : Int32) (x2 : Int32) (x3 : Int32) (x4 : Int32) (st : mm_S) (H : Heap) (locs : List Loc) (ls : Array Slot), K10 x1 x2 x3 x4 st = some (r, st') → lv_has ls 5 [(0, .ref o), (1, .int x1), (2, .int x2), (3, .int x3), (4, .int x4)] → mm_H D o ad cs s.heap st H locs → W p l e (mm_R 4 104) s m args below meth c H locs 0 0 (MQ below (mm_Qi D o ad cs r st') args s 0 0 (mm_A o ad)) (F0 m 10 ls [])) (x1 : Int32) (x2 : Int32) (x3 : Int32) (x4 : Int32) (st : mm_S) (hf : M_gainBy_b10F fu K10 x1 x2 x3 x4 st = some (r, st')) {H : Heap} {locs : List Loc} {ls : Array Slot} (hl : lv_has ls 5 [(0, .ref o), (1, .int x1), (2, .int x2), (3, .int x3), (4, .int x4)]) (hM : mm_H D o ad cs s.heap st H locs) : W p l e (mm_R 4 104) s m args below meth c H locs 0 0 (MQ below (mm_Qi D o ad cs r st') args s 0 0 (mm_A o ad)) (F0 m 10 ls []) := by
  unfold M_gainBy_b10F at hf
  refine lv_iload C.1 C.2.1 (dd_at td_gainBy 7 rfl) (lv_at hl 4 rfl) ?_
  refine lv_aload_n C.1 C.2.1 (dd_at td_gainBy 8 rfl) rfl (lv_at hl 0 rfl) ?_
  refine mm_gI C hM 29 (dd_at td_gainBy 9 rfl) (by decide) (by decide) (by decide) ?_
  refine lv_icmp_ge (tgt := 73) C.1 C.2.1 (dd_at td_gainBy 10 rfl) (by decide) (fun c2 => ?_) (fun c2 => ?_)
  · replace hf := fc_of_t hf c2
    refine lv_iload_n C.1 C.2.1 (dd_at td_gainBy 42 rfl) rfl (lv_at hl 3 rfl) ?_
    exact mm_ri C hM (dd_at td_gainBy 43 rfl) hf
  · replace hf := fc_of_f hf c2
    refine lv_aload_n C.1 C.2.1 (dd_at td_gainBy 11 rfl) rfl (lv_at hl 0 rfl) ?_
    refine lv_iload_n C.1 C.2.1 (dd_at td_gainBy 12 rfl) rfl (lv_at hl 1 rfl) ?_
    refine lv_iload C.1 C.2.1 (dd_at td_gainBy 13 rfl) (lv_at hl 4 rfl) ?_
    obtain ⟨r5, st3, hx4, hf⟩ := fc_of_bn hf
    refine mm_ci (As := [.int x1, .int x4]) (rest := []) (n := 2) C hM (c_has l D o ad cs fu x1 x4 st) (List.mem_of_getElem? (i := 13) rfl) (dd_at td_gainBy 14 rfl) hx4 hl.1 hd_has ⟨Nat.le_of_ble_eq_true rfl, Nat.le_of_ble_eq_true rfl⟩ rfl rfl (Nat.le_of_ble_eq_true rfl) ⟨Nat.le_refl 0, Nat.le_refl 0⟩ (fun H locs hM => ?_)
    refine lv_if_eq (tgt := 58) C.1 C.2.1 (dd_at td_gainBy 15 rfl) (by decide) (fun c6 => ?_) (fun c6 => ?_)
    · replace hf := fc_of_t hf c6
      exact w_gainBy_b58 C fu K10 hK10 x1 x2 x3 x4 st3 hf (lv_sub hl [0, 1, 2, 3, 4] rfl) hM
    · replace hf := fc_of_f hf c6
      refine lv_iload_n C.1 C.2.1 (dd_at td_gainBy 16 rfl) rfl (lv_at hl 2 rfl) ?_
      refine lv_if_le (tgt := 58) C.1 C.2.1 (dd_at td_gainBy 17 rfl) (by decide) (fun c7 => ?_) (fun c7 => ?_)
      · replace hf := fc_of_t hf c7
        exact w_gainBy_b58 C fu K10 hK10 x1 x2 x3 x4 st3 hf (lv_sub hl [0, 1, 2, 3, 4] rfl) hM
      · replace hf := fc_of_f hf c7
        refine lv_iload_n C.1 C.2.1 (dd_at td_gainBy 18 rfl) rfl (lv_at hl 3 rfl) ?_
        refine lv_aload_n C.1 C.2.1 (dd_at td_gainBy 19 rfl) rfl (lv_at hl 0 rfl) ?_
        refine lv_aload_n C.1 C.2.1 (dd_at td_gainBy 20 rfl) rfl (lv_at hl 0 rfl) ?_
        refine mm_gA C hM 30 (dd_at td_gainBy 21 rfl) (by decide) (by decide) (by decide) ?_
        refine lv_iload C.1 C.2.1 (dd_at td_gainBy 22 rfl) (lv_at hl 4 rfl) ?_
        obtain ⟨g8, hf⟩ := fc_of_gd hf
        refine mm_iald C hM 30 (dd_at td_gainBy 23 rfl) (by decide) (by decide) (fc_of_ix g8) ?_
        refine lv_aload_n C.1 C.2.1 (dd_at td_gainBy 24 rfl) rfl (lv_at hl 0 rfl) ?_
        refine mm_gI C hM 3 (dd_at td_gainBy 25 rfl) (by decide) (by decide) (by decide) ?_
        refine lv_iload C.1 C.2.1 (dd_at td_gainBy 26 rfl) (lv_at hl 4 rfl) ?_
        refine lv_iadd C.1 C.2.1 (dd_at td_gainBy 27 rfl) ?_
        refine lv_iload_n C.1 C.2.1 (dd_at td_gainBy 28 rfl) rfl (lv_at hl 2 rfl) ?_
        obtain ⟨r11, st9, hx10, hf⟩ := fc_of_bn hf
        refine mm_ci (As := [.int (mm_G st3 30 x4.toNatClampNeg), .int ((mm_I st3 3) + x4), .int x2]) (rest := [.int x3]) (n := 3) C hM (c_worthOf l D o ad cs fu (mm_G st3 30 x4.toNatClampNeg) ((mm_I st3 3) + x4) x2 st3) (List.mem_of_getElem? (i := 48) rfl) (dd_at td_gainBy 29 rfl) hx10 hl.1 hd_worthOf ⟨Nat.le_of_ble_eq_true rfl, Nat.le_of_ble_eq_true rfl⟩ rfl rfl (Nat.le_of_ble_eq_true rfl) ⟨Nat.le_refl 0, Nat.le_refl 0⟩ (fun H locs hM => ?_)
        refine lv_iadd C.1 C.2.1 (dd_at td_gainBy 30 rfl) ?_
        refine lv_topi (fun v12 ev12 => ?_)
        replace hf := fc_of_nm hf v12 ev12
        refine lv_istore_n (lv' := [(3, .int v12), (0, .ref o), (1, .int x1), (2, .int x2), (4, .int x4)]) C.1 C.2.1 (dd_at td_gainBy 31 rfl) rfl hl (by decide) rfl (fun ls hl => ?_)
        obtain ⟨v13, ev13⟩ : ∃ y : Int32, y = x2 + (-1 : Int32) := ⟨_, rfl⟩
        replace hf := fc_of_nm hf v13 ev13
        refine lv_iinc (v := v13) (lv' := [(2, .int v13), (3, .int v12), (0, .ref o), (1, .int x1), (4, .int x4)]) C.1 C.2.1 (dd_at td_gainBy 32 rfl) hl (k := 3) rfl (by rw [ev13]; rfl) (by decide) rfl (fun ls hl => ?_)
        exact w_gainBy_b58 C fu K10 hK10 x1 v13 v12 x4 st9 hf (lv_sub hl [2, 3, 0, 1, 4] rfl) hM
theorem w_gainBy_b10 {p : Program} {l : Launch} {e : Env} {s : State} {m : MethodId} {args : Array Value} {below : List Frame} {meth : Method} {c : Code} {D : va_G} {o : Nat} {ad : Nat → Nat} {cs : ClassId × ClassId × ClassId} {r : Int32} {st' : mm_S} (C : mm_C p s m args meth c cX12_gainBy 5 (some .int) D cs) (fu : Nat) (n : Nat) : ∀ (x1 : Int32) (x2 : Int32) (x3 : Int32) (x4 : Int32) (st : mm_S), M_gainBy_b10 fu n x1 x2 x3 x4 st = some (r, st') → ∀ (H : Heap) (locs : List Loc) (ls : Array Slot), lv_has ls 5 [(0, .ref o), (1, .int x1), (2, .int x2), (3, .int x3), (4, .int x4)] → mm_H D o ad cs s.heap st H locs → W p l e (mm_R 4 104) s m args below meth c H locs 0 0 (MQ below (mm_Qi D o ad cs r st') args s 0 0 (mm_A o ad)) (F0 m 10 ls []) := by
  induction n with
  | zero => exact fun _ _ _ _ _ hf => fc_no hf
  | succ n ih =>
    intro x1 x2 x3 x4 st hf H locs ls hl hM
    exact w_gainBy_b10F C fu (fun x1 x2 x3 x4 st => M_gainBy_b10 fu n x1 x2 x3 x4 st) (fun x1 x2 x3 x4 st H locs ls hf hl hM => ih x1 x2 x3 x4 st hf H locs ls hl hM) x1 x2 x3 x4 st hf hl hM
theorem w_gainBy {p : Program} {l : Launch} {e : Env} {s : State} {m : MethodId} {args : Array Value} {below : List Frame} {meth : Method} {c : Code} {D : va_G} {o : Nat} {ad : Nat → Nat} {cs : ClassId × ClassId × ClassId} {r : Int32} {st' : mm_S} (C : mm_C p s m args meth c cX12_gainBy 5 (some .int) D cs) (fu : Nat) (x1 : Int32) (st : mm_S) (hf : M_gainBy fu x1 st = some (r, st')) {H : Heap} {locs : List Loc} {ls : Array Slot} (hl : lv_has ls 5 [(0, .ref o), (1, .int x1)]) (hM : mm_H D o ad cs s.heap st H locs) : W p l e (mm_R 4 104) s m args below meth c H locs 0 0 (MQ below (mm_Qi D o ad cs r st') args s 0 0 (mm_A o ad)) (F0 m 0 ls []) := by
  unfold M_gainBy at hf
  refine lv_aload_n C.1 C.2.1 (dd_at td_gainBy 0 rfl) rfl (lv_at hl 0 rfl) ?_
  refine mm_gI C hM 1 (dd_at td_gainBy 1 rfl) (by decide) (by decide) (by decide) ?_
  refine lv_topi (fun v1 ev1 => ?_)
  replace hf := fc_of_nm hf v1 ev1
  refine lv_istore_n (lv' := [(2, .int v1), (0, .ref o), (1, .int x1)]) C.1 C.2.1 (dd_at td_gainBy 2 rfl) rfl hl (by decide) rfl (fun ls hl => ?_)
  refine lv_iconst (v := (0 : Int32)) C.1 C.2.1 (dd_at td_gainBy 3 rfl) (by decide) ?_
  refine lv_istore_n (lv' := [(3, .int (0 : Int32)), (2, .int v1), (0, .ref o), (1, .int x1)]) C.1 C.2.1 (dd_at td_gainBy 4 rfl) rfl hl (by decide) rfl (fun ls hl => ?_)
  refine lv_iconst (v := (0 : Int32)) C.1 C.2.1 (dd_at td_gainBy 5 rfl) (by decide) ?_
  refine lv_istore (lv' := [(4, .int (0 : Int32)), (3, .int (0 : Int32)), (2, .int v1), (0, .ref o), (1, .int x1)]) C.1 C.2.1 (dd_at td_gainBy 6 rfl) hl (by decide) rfl (fun ls hl => ?_)
  exact w_gainBy_b10 C fu fu x1 v1 (0 : Int32) (0 : Int32) st hf _ _ _ (lv_sub hl [3, 4, 2, 1, 0] rfl) hM
theorem c_gainBy (l : Launch) (D : va_G) (o : Nat) (ad : Nat → Nat) (cs : ClassId × ClassId × ClassId) (fu : Nat) (x1 : Int32) (st : mm_S) : mm_Mi l D o ad cs yX12_gainBy cX12_gainBy 5 (some .int) 4 104 [.int x1] st (M_gainBy fu x1 st) := by
  intro r st' hf
  refine mm_enter (cc := cX12_gainBy) (nL := 5) (ret := some .int) (by decide) rfl (Nat.le_of_ble_eq_true rfl) ?_
  intro p e s m args below meth c ls C hl hM
  exact w_gainBy C fu x1 st hf hl hM

/-! bestSet -/
def tb_bestSet : List (Nat × Instr × Nat) := [(0, .iconst 0, 1), (1, .istore_n 1, 1), (2, .iconst 1, 1), (3, .istore_n 2, 1), (4, .iload_n 2, 1), (5, .iconst 1, 1), (6, .aload_n 0, 1), (7, .getfield 100, 3), (10, .ishl, 1), (11, .if_icmp .ge 36, 3), (14, .aload_n 0, 1), (15, .iload_n 2, 1), (16, .invokevirtual 331, 3), (19, .aload_n 0, 1), (20, .getfield 13, 3), (23, .if_icmp .gt 18, 3), (26, .aload_n 0, 1), (27, .iload_n 2, 1), (28, .invokevirtual 334, 3), (31, .aload_n 0, 1), (32, .iload_n 1, 1), (33, .invokevirtual 334, 3), (36, .if_icmp .le 5, 3), (39, .iload_n 2, 1), (40, .istore_n 1, 1), (41, .iinc 2 1, 3), (44, .goto (-40), 3), (47, .iload_n 1, 1), (48, .ireturn, 1)]
theorem td_bestSet : tb_bestSet.all (fun q => decide (decode cX12_bestSet q.1 = .ok (q.2.1, q.2.2))) = true := by decide +kernel
theorem hd_bestSet : yX12_bestSet.cls = RX12 ∧ yX12_bestSet.cls ≠ "java/lang/invoke/MethodHandle" ∧ yX12_bestSet.cls ≠ "java/lang/invoke/VarHandle" ∧ (parseMethodDescriptor yX12_bestSet.desc).map (fun d => d.parameters.length) = some 0 := by decide +kernel
theorem w_bestSet_b41 {p : Program} {l : Launch} {e : Env} {s : State} {m : MethodId} {args : Array Value} {below : List Frame} {meth : Method} {c : Code} {D : va_G} {o : Nat} {ad : Nat → Nat} {cs : ClassId × ClassId × ClassId} {r : Int32} {st' : mm_S} (C : mm_C p s m args meth c cX12_bestSet 3 (some .int) D cs) (fu : Nat) (K4 : Int32 → Int32 → mm_S → Option (Int32 × mm_S)) (hK4 : ∀ (x1 : Int32) (x2 : Int32) (st : mm_S) (H : Heap) (locs : List Loc) (ls : Array Slot), K4 x1 x2 st = some (r, st') → lv_has ls 3 [(0, .ref o), (1, .int x1), (2, .int x2)] → mm_H D o ad cs s.heap st H locs → W p l e (mm_R 5 128) s m args below meth c H locs 0 0 (MQ below (mm_Qi D o ad cs r st') args s 0 0 (mm_A o ad)) (F0 m 4 ls [])) (x1 : Int32) (x2 : Int32) (st : mm_S) (hf : M_bestSet_b41 fu K4 x1 x2 st = some (r, st')) {H : Heap} {locs : List Loc} {ls : Array Slot} (hl : lv_has ls 3 [(0, .ref o), (1, .int x1), (2, .int x2)]) (hM : mm_H D o ad cs s.heap st H locs) : W p l e (mm_R 5 128) s m args below meth c H locs 0 0 (MQ below (mm_Qi D o ad cs r st') args s 0 0 (mm_A o ad)) (F0 m 41 ls []) := by
  unfold M_bestSet_b41 at hf
  obtain ⟨v13, ev13⟩ : ∃ y : Int32, y = x2 + (1 : Int32) := ⟨_, rfl⟩
  replace hf := fc_of_nm hf v13 ev13
  refine lv_iinc (v := v13) (lv' := [(2, .int v13), (0, .ref o), (1, .int x1)]) C.1 C.2.1 (dd_at td_bestSet 25 rfl) hl (k := 2) rfl (by rw [ev13]; rfl) (by decide) rfl (fun ls hl => ?_)
  refine lv_goto (tgt := 4) C.1 C.2.1 (dd_at td_bestSet 26 rfl) (by decide) ?_
  exact hK4 x1 v13 st _ _ _ hf (lv_sub hl [1, 2, 0] rfl) hM
theorem w_bestSet_b4F {p : Program} {l : Launch} {e : Env} {s : State} {m : MethodId} {args : Array Value} {below : List Frame} {meth : Method} {c : Code} {D : va_G} {o : Nat} {ad : Nat → Nat} {cs : ClassId × ClassId × ClassId} {r : Int32} {st' : mm_S} (C : mm_C p s m args meth c cX12_bestSet 3 (some .int) D cs) (fu : Nat) (K4 : Int32 → Int32 → mm_S → Option (Int32 × mm_S)) (hK4 : ∀ (x1 : Int32) (x2 : Int32) (st : mm_S) (H : Heap) (locs : List Loc) (ls : Array Slot), K4 x1 x2 st = some (r, st') → lv_has ls 3 [(0, .ref o), (1, .int x1), (2, .int x2)] → mm_H D o ad cs s.heap st H locs → W p l e (mm_R 5 128) s m args below meth c H locs 0 0 (MQ below (mm_Qi D o ad cs r st') args s 0 0 (mm_A o ad)) (F0 m 4 ls [])) (x1 : Int32) (x2 : Int32) (st : mm_S) (hf : M_bestSet_b4F fu K4 x1 x2 st = some (r, st')) {H : Heap} {locs : List Loc} {ls : Array Slot} (hl : lv_has ls 3 [(0, .ref o), (1, .int x1), (2, .int x2)]) (hM : mm_H D o ad cs s.heap st H locs) : W p l e (mm_R 5 128) s m args below meth c H locs 0 0 (MQ below (mm_Qi D o ad cs r st') args s 0 0 (mm_A o ad)) (F0 m 4 ls []) := by
  unfold M_bestSet_b4F at hf
  refine lv_iload_n C.1 C.2.1 (dd_at td_bestSet 4 rfl) rfl (lv_at hl 2 rfl) ?_
  refine lv_iconst (v := (1 : Int32)) C.1 C.2.1 (dd_at td_bestSet 5 rfl) (by decide) ?_
  refine lv_aload_n C.1 C.2.1 (dd_at td_bestSet 6 rfl) rfl (lv_at hl 0 rfl) ?_
  refine mm_gI C hM 29 (dd_at td_bestSet 7 rfl) (by decide) (by decide) (by decide) ?_
  refine lv_ishl C.1 C.2.1 (dd_at td_bestSet 8 rfl) ?_
  refine lv_icmp_ge (tgt := 47) C.1 C.2.1 (dd_at td_bestSet 9 rfl) (by decide) (fun c1 => ?_) (fun c1 => ?_)
  · replace hf := fc_of_t hf c1
    refine lv_iload_n C.1 C.2.1 (dd_at td_bestSet 27 rfl) rfl (lv_at hl 1 rfl) ?_
    exact mm_ri C hM (dd_at td_bestSet 28 rfl) hf
  · replace hf := fc_of_f hf c1
    refine lv_aload_n C.1 C.2.1 (dd_at td_bestSet 10 rfl) rfl (lv_at hl 0 rfl) ?_
    refine lv_iload_n C.1 C.2.1 (dd_at td_bestSet 11 rfl) rfl (lv_at hl 2 rfl) ?_
    obtain ⟨r4, st2, hx3, hf⟩ := fc_of_bn hf
    refine mm_ci (As := [.int x2]) (rest := []) (n := 1) C hM (c_bits l D o ad cs fu x2 st) (List.mem_of_getElem? (i := 4) rfl) (dd_at td_bestSet 12 rfl) hx3 hl.1 hd_bits ⟨Nat.le_of_ble_eq_true rfl, Nat.le_of_ble_eq_true rfl⟩ rfl rfl (Nat.le_of_ble_eq_true rfl) ⟨Nat.le_refl 0, Nat.le_refl 0⟩ (fun H locs hM => ?_)
    refine lv_aload_n C.1 C.2.1 (dd_at td_bestSet 13 rfl) rfl (lv_at hl 0 rfl) ?_
    refine mm_gI C hM 1 (dd_at td_bestSet 14 rfl) (by decide) (by decide) (by decide) ?_
    refine lv_icmp_gt (tgt := 41) C.1 C.2.1 (dd_at td_bestSet 15 rfl) (by decide) (fun c5 => ?_) (fun c5 => ?_)
    · replace hf := fc_of_t hf c5
      exact w_bestSet_b41 C fu K4 hK4 x1 x2 st2 hf (lv_sub hl [0, 1, 2] rfl) hM
    · replace hf := fc_of_f hf c5
      refine lv_aload_n C.1 C.2.1 (dd_at td_bestSet 16 rfl) rfl (lv_at hl 0 rfl) ?_
      refine lv_iload_n C.1 C.2.1 (dd_at td_bestSet 17 rfl) rfl (lv_at hl 2 rfl) ?_
      obtain ⟨r8, st6, hx7, hf⟩ := fc_of_bn hf
      refine mm_ci (As := [.int x2]) (rest := []) (n := 1) C hM (c_gainBy l D o ad cs fu x2 st2) (List.mem_of_getElem? (i := 10) rfl) (dd_at td_bestSet 18 rfl) hx7 hl.1 hd_gainBy ⟨Nat.le_of_ble_eq_true rfl, Nat.le_of_ble_eq_true rfl⟩ rfl rfl (Nat.le_of_ble_eq_true rfl) ⟨Nat.le_refl 0, Nat.le_refl 0⟩ (fun H locs hM => ?_)
      refine lv_aload_n C.1 C.2.1 (dd_at td_bestSet 19 rfl) rfl (lv_at hl 0 rfl) ?_
      refine lv_iload_n C.1 C.2.1 (dd_at td_bestSet 20 rfl) rfl (lv_at hl 1 rfl) ?_
      obtain ⟨r11, st9, hx10, hf⟩ := fc_of_bn hf
      refine mm_ci (As := [.int x1]) (rest := [.int r8]) (n := 1) C hM (c_gainBy l D o ad cs fu x1 st6) (List.mem_of_getElem? (i := 10) rfl) (dd_at td_bestSet 21 rfl) hx10 hl.1 hd_gainBy ⟨Nat.le_of_ble_eq_true rfl, Nat.le_of_ble_eq_true rfl⟩ rfl rfl (Nat.le_of_ble_eq_true rfl) ⟨Nat.le_refl 0, Nat.le_refl 0⟩ (fun H locs hM => ?_)
      refine lv_icmp_le (tgt := 41) C.1 C.2.1 (dd_at td_bestSet 22 rfl) (by decide) (fun c12 => ?_) (fun c12 => ?_)
      · replace hf := fc_of_t hf c12
        exact w_bestSet_b41 C fu K4 hK4 x1 x2 st9 hf (lv_sub hl [0, 1, 2] rfl) hM
      · replace hf := fc_of_f hf c12
        refine lv_iload_n C.1 C.2.1 (dd_at td_bestSet 23 rfl) rfl (lv_at hl 2 rfl) ?_
        refine lv_istore_n (lv' := [(1, .int x2), (0, .ref o), (2, .int x2)]) C.1 C.2.1 (dd_at td_bestSet 24 rfl) rfl hl (by decide) rfl (fun ls hl => ?_)
        exact w_bestSet_b41 C fu K4 hK4 x2 x2 st9 hf (lv_sub hl [1, 0, 2] rfl) hM
theorem w_bestSet_b4 {p : Program} {l : Launch} {e : Env} {s : State} {m : MethodId} {args : Array Value} {below : List Frame} {meth : Method} {c : Code} {D : va_G} {o : Nat} {ad : Nat → Nat} {cs : ClassId × ClassId × ClassId} {r : Int32} {st' : mm_S} (C : mm_C p s m args meth c cX12_bestSet 3 (some .int) D cs) (fu : Nat) (n : Nat) : ∀ (x1 : Int32) (x2 : Int32) (st : mm_S), M_bestSet_b4 fu n x1 x2 st = some (r, st') → ∀ (H : Heap) (locs : List Loc) (ls : Array Slot), lv_has ls 3 [(0, .ref o), (1, .int x1), (2, .int x2)] → mm_H D o ad cs s.heap st H locs → W p l e (mm_R 5 128) s m args below meth c H locs 0 0 (MQ below (mm_Qi D o ad cs r st') args s 0 0 (mm_A o ad)) (F0 m 4 ls []) := by
  induction n with
  | zero => exact fun _ _ _ hf => fc_no hf
  | succ n ih =>
    intro x1 x2 st hf H locs ls hl hM
    exact w_bestSet_b4F C fu (fun x1 x2 st => M_bestSet_b4 fu n x1 x2 st) (fun x1 x2 st H locs ls hf hl hM => ih x1 x2 st hf H locs ls hl hM) x1 x2 st hf hl hM
theorem w_bestSet {p : Program} {l : Launch} {e : Env} {s : State} {m : MethodId} {args : Array Value} {below : List Frame} {meth : Method} {c : Code} {D : va_G} {o : Nat} {ad : Nat → Nat} {cs : ClassId × ClassId × ClassId} {r : Int32} {st' : mm_S} (C : mm_C p s m args meth c cX12_bestSet 3 (some .int) D cs) (fu : Nat) (st : mm_S) (hf : M_bestSet fu st = some (r, st')) {H : Heap} {locs : List Loc} {ls : Array Slot} (hl : lv_has ls 3 [(0, .ref o)]) (hM : mm_H D o ad cs s.heap st H locs) : W p l e (mm_R 5 128) s m args below meth c H locs 0 0 (MQ below (mm_Qi D o ad cs r st') args s 0 0 (mm_A o ad)) (F0 m 0 ls []) := by
  unfold M_bestSet at hf
  refine lv_iconst (v := (0 : Int32)) C.1 C.2.1 (dd_at td_bestSet 0 rfl) (by decide) ?_
  refine lv_istore_n (lv' := [(1, .int (0 : Int32)), (0, .ref o)]) C.1 C.2.1 (dd_at td_bestSet 1 rfl) rfl hl (by decide) rfl (fun ls hl => ?_)
  refine lv_iconst (v := (1 : Int32)) C.1 C.2.1 (dd_at td_bestSet 2 rfl) (by decide) ?_
  refine lv_istore_n (lv' := [(2, .int (1 : Int32)), (1, .int (0 : Int32)), (0, .ref o)]) C.1 C.2.1 (dd_at td_bestSet 3 rfl) rfl hl (by decide) rfl (fun ls hl => ?_)
  exact w_bestSet_b4 C fu fu (0 : Int32) (1 : Int32) st hf _ _ _ (lv_sub hl [2, 1, 0] rfl) hM
theorem c_bestSet (l : Launch) (D : va_G) (o : Nat) (ad : Nat → Nat) (cs : ClassId × ClassId × ClassId) (fu : Nat) (st : mm_S) : mm_Mi l D o ad cs yX12_bestSet cX12_bestSet 3 (some .int) 5 128 [] st (M_bestSet fu st) := by
  intro r st' hf
  refine mm_enter (cc := cX12_bestSet) (nL := 3) (ret := some .int) (by decide) rfl (Nat.le_of_ble_eq_true rfl) ?_
  intro p e s m args below meth c ls C hl hM
  exact w_bestSet C fu st hf hl hM

/-! plan -/
def tb_plan : List (Nat × Instr × Nat) := [(0, .aload_n 0, 1), (1, .iload_n 1, 1), (2, .iconst 0, 1), (3, .iconst 1, 1), (4, .invokevirtual 207, 3), (7, .ifCond .ne 7, 3), (10, .ldc_w 287, 3), (13, .ireturn, 1), (14, .iload_n 1, 1), (15, .ifCond .ne 10, 3), (18, .aload_n 0, 1), (19, .invokevirtual 337, 3), (22, .goto 11, 3), (25, .aload_n 0, 1), (26, .aload_n 0, 1), (27, .invokevirtual 337, 3), (30, .invokevirtual 334, 3), (33, .ireturn, 1)]
theorem td_plan : tb_plan.all (fun q => decide (decode cX12_plan q.1 = .ok (q.2.1, q.2.2))) = true := by decide +kernel
theorem w_plan {p : Program} {l : Launch} {e : Env} {s : State} {m : MethodId} {args : Array Value} {below : List Frame} {meth : Method} {c : Code} {D : va_G} {o : Nat} {ad : Nat → Nat} {cs : ClassId × ClassId × ClassId} {r : Int32} {st' : mm_S} (C : mm_C p s m args meth c cX12_plan 2 (some .int) D cs) (fu : Nat) (x1 : Int32) (st : mm_S) (hf : M_plan fu x1 st = some (r, st')) {H : Heap} {locs : List Loc} {ls : Array Slot} (hl : lv_has ls 2 [(0, .ref o), (1, .int x1)]) (hM : mm_H D o ad cs s.heap st H locs) : W p l e (mm_R 6 150) s m args below meth c H locs 0 0 (MQ below (mm_Qi D o ad cs r st') args s 0 0 (mm_A o ad)) (F0 m 0 ls []) := by
  unfold M_plan at hf
  refine lv_aload_n C.1 C.2.1 (dd_at td_plan 0 rfl) rfl (lv_at hl 0 rfl) ?_
  refine lv_iload_n C.1 C.2.1 (dd_at td_plan 1 rfl) rfl (lv_at hl 1 rfl) ?_
  refine lv_iconst (v := (0 : Int32)) C.1 C.2.1 (dd_at td_plan 2 rfl) (by decide) ?_
  refine lv_iconst (v := (1 : Int32)) C.1 C.2.1 (dd_at td_plan 3 rfl) (by decide) ?_
  obtain ⟨r3, st1, hx2, hf⟩ := fc_of_bn hf
  refine mm_ci (As := [.int x1, .int (0 : Int32), .int (1 : Int32)]) (rest := []) (n := 3) C hM (c_in l D o ad cs fu x1 (0 : Int32) (1 : Int32) st) (List.mem_of_getElem? (i := 18) rfl) (dd_at td_plan 4 rfl) hx2 hl.1 hd_in ⟨Nat.le_of_ble_eq_true rfl, Nat.le_of_ble_eq_true rfl⟩ rfl rfl (Nat.le_of_ble_eq_true rfl) ⟨Nat.le_refl 0, Nat.le_refl 0⟩ (fun H locs hM => ?_)
  refine lv_if_ne (tgt := 14) C.1 C.2.1 (dd_at td_plan 5 rfl) (by decide) (fun c4 => ?_) (fun c4 => ?_)
  · replace hf := fc_of_f hf c4
    refine lv_iload_n C.1 C.2.1 (dd_at td_plan 8 rfl) rfl (lv_at hl 1 rfl) ?_
    refine lv_if_ne (tgt := 25) C.1 C.2.1 (dd_at td_plan 9 rfl) (by decide) (fun c5 => ?_) (fun c5 => ?_)
    · replace hf := fc_of_f hf c5
      refine lv_aload_n C.1 C.2.1 (dd_at td_plan 13 rfl) rfl (lv_at hl 0 rfl) ?_
      refine lv_aload_n C.1 C.2.1 (dd_at td_plan 14 rfl) rfl (lv_at hl 0 rfl) ?_
      obtain ⟨r8, st6, hx7, hf⟩ := fc_of_bn hf
      refine mm_ci (As := []) (rest := [.ref o]) (n := 0) C hM (c_bestSet l D o ad cs fu st1) (List.mem_of_getElem? (i := 3) rfl) (dd_at td_plan 15 rfl) hx7 hl.1 hd_bestSet ⟨Nat.le_of_ble_eq_true rfl, Nat.le_of_ble_eq_true rfl⟩ rfl rfl (Nat.le_of_ble_eq_true rfl) ⟨Nat.le_refl 0, Nat.le_refl 0⟩ (fun H locs hM => ?_)
      obtain ⟨r11, st9, hx10, hf⟩ := fc_of_bn hf
      refine mm_ci (As := [.int r8]) (rest := []) (n := 1) C hM (c_gainBy l D o ad cs fu r8 st6) (List.mem_of_getElem? (i := 10) rfl) (dd_at td_plan 16 rfl) hx10 hl.1 hd_gainBy ⟨Nat.le_of_ble_eq_true rfl, Nat.le_of_ble_eq_true rfl⟩ rfl rfl (Nat.le_of_ble_eq_true rfl) ⟨Nat.le_refl 0, Nat.le_refl 0⟩ (fun H locs hM => ?_)
      exact mm_ri C hM (dd_at td_plan 17 rfl) hf
    · replace hf := fc_of_t hf c5
      refine lv_aload_n C.1 C.2.1 (dd_at td_plan 10 rfl) rfl (lv_at hl 0 rfl) ?_
      obtain ⟨r14, st12, hx13, hf⟩ := fc_of_bn hf
      refine mm_ci (As := []) (rest := []) (n := 0) C hM (c_bestSet l D o ad cs fu st1) (List.mem_of_getElem? (i := 3) rfl) (dd_at td_plan 11 rfl) hx13 hl.1 hd_bestSet ⟨Nat.le_of_ble_eq_true rfl, Nat.le_of_ble_eq_true rfl⟩ rfl rfl (Nat.le_of_ble_eq_true rfl) ⟨Nat.le_refl 0, Nat.le_refl 0⟩ (fun H locs hM => ?_)
      refine lv_goto (tgt := 33) C.1 C.2.1 (dd_at td_plan 12 rfl) (by decide) ?_
      exact mm_ri C hM (dd_at td_plan 17 rfl) hf
  · replace hf := fc_of_t hf c4
    refine lv_ldcw (v := (-10000001 : Int32)) C.1 C.2.1 C.2.2.2.2.1 (C.2.2.2.2.2.1 (.constant RX12 287 (-10000001 : Int32)) (mm_Wk (by decide +kernel))) (dd_at td_plan 6 rfl) ?_
    exact mm_ri C hM (dd_at td_plan 7 rfl) hf
theorem c_plan (l : Launch) (D : va_G) (o : Nat) (ad : Nat → Nat) (cs : ClassId × ClassId × ClassId) (fu : Nat) (x1 : Int32) (st : mm_S) : mm_Mi l D o ad cs yX12_plan cX12_plan 2 (some .int) 6 150 [.int x1] st (M_plan fu x1 st) := by
  intro r st' hf
  refine mm_enter (cc := cX12_plan) (nL := 2) (ret := some .int) (by decide) rfl (Nat.le_of_ble_eq_true rfl) ?_
  intro p e s m args below meth c ls C hl hM
  exact w_plan C fu x1 st hf hl hM
end
section
/-! ends -/
def tb_ends : List (Nat × Instr × Nat) := [(0, .aload_n 0, 1), (1, .iload_n 1, 1), (2, .iconst 0, 1), (3, .iconst 1, 1), (4, .invokevirtual 207, 3), (7, .ifCond .ne 7, 3), (10, .ldc_w 287, 3), (13, .ireturn, 1), (14, .iload_n 1, 1), (15, .ifCond .ne 11, 3), (18, .aload_n 0, 1), (19, .iconst 0, 1), (20, .invokevirtual 334, 3), (23, .goto 10, 3), (26, .aload_n 0, 1), (27, .sipush 255, 3), (30, .invokevirtual 334, 3), (33, .ireturn, 1)]
theorem td_ends : tb_ends.all (fun q => decide (decode cX12_ends q.1 = .ok (q.2.1, q.2.2))) = true := by decide +kernel
theorem w_ends {p : Program} {l : Launch} {e : Env} {s : State} {m : MethodId} {args : Array Value} {below : List Frame} {meth : Method} {c : Code} {D : va_G} {o : Nat} {ad : Nat → Nat} {cs : ClassId × ClassId × ClassId} {r : Int32} {st' : mm_S} (C : mm_C p s m args meth c cX12_ends 2 (some .int) D cs) (fu : Nat) (x1 : Int32) (st : mm_S) (hf : M_ends fu x1 st = some (r, st')) {H : Heap} {locs : List Loc} {ls : Array Slot} (hl : lv_has ls 2 [(0, .ref o), (1, .int x1)]) (hM : mm_H D o ad cs s.heap st H locs) : W p l e (mm_R 5 128) s m args below meth c H locs 0 0 (MQ below (mm_Qi D o ad cs r st') args s 0 0 (mm_A o ad)) (F0 m 0 ls []) := by
  unfold M_ends at hf
  refine lv_aload_n C.1 C.2.1 (dd_at td_ends 0 rfl) rfl (lv_at hl 0 rfl) ?_
  refine lv_iload_n C.1 C.2.1 (dd_at td_ends 1 rfl) rfl (lv_at hl 1 rfl) ?_
  refine lv_iconst (v := (0 : Int32)) C.1 C.2.1 (dd_at td_ends 2 rfl) (by decide) ?_
  refine lv_iconst (v := (1 : Int32)) C.1 C.2.1 (dd_at td_ends 3 rfl) (by decide) ?_
  obtain ⟨r3, st1, hx2, hf⟩ := fc_of_bn hf
  refine mm_ci (As := [.int x1, .int (0 : Int32), .int (1 : Int32)]) (rest := []) (n := 3) C hM (c_in l D o ad cs fu x1 (0 : Int32) (1 : Int32) st) (List.mem_of_getElem? (i := 18) rfl) (dd_at td_ends 4 rfl) hx2 hl.1 hd_in ⟨Nat.le_of_ble_eq_true rfl, Nat.le_of_ble_eq_true rfl⟩ rfl rfl (Nat.le_of_ble_eq_true rfl) ⟨Nat.le_refl 0, Nat.le_refl 0⟩ (fun H locs hM => ?_)
  refine lv_if_ne (tgt := 14) C.1 C.2.1 (dd_at td_ends 5 rfl) (by decide) (fun c4 => ?_) (fun c4 => ?_)
  · replace hf := fc_of_f hf c4
    refine lv_iload_n C.1 C.2.1 (dd_at td_ends 8 rfl) rfl (lv_at hl 1 rfl) ?_
    refine lv_if_ne (tgt := 26) C.1 C.2.1 (dd_at td_ends 9 rfl) (by decide) (fun c5 => ?_) (fun c5 => ?_)
    · replace hf := fc_of_f hf c5
      refine lv_aload_n C.1 C.2.1 (dd_at td_ends 14 rfl) rfl (lv_at hl 0 rfl) ?_
      refine lv_sipush (v := (255 : Int32)) C.1 C.2.1 (dd_at td_ends 15 rfl) (by decide) ?_
      obtain ⟨r8, st6, hx7, hf⟩ := fc_of_bn hf
      refine mm_ci (As := [.int (255 : Int32)]) (rest := []) (n := 1) C hM (c_gainBy l D o ad cs fu (255 : Int32) st1) (List.mem_of_getElem? (i := 10) rfl) (dd_at td_ends 16 rfl) hx7 hl.1 hd_gainBy ⟨Nat.le_of_ble_eq_true rfl, Nat.le_of_ble_eq_true rfl⟩ rfl rfl (Nat.le_of_ble_eq_true rfl) ⟨Nat.le_refl 0, Nat.le_refl 0⟩ (fun H locs hM => ?_)
      exact mm_ri C hM (dd_at td_ends 17 rfl) hf
    · replace hf := fc_of_t hf c5
      refine lv_aload_n C.1 C.2.1 (dd_at td_ends 10 rfl) rfl (lv_at hl 0 rfl) ?_
      refine lv_iconst (v := (0 : Int32)) C.1 C.2.1 (dd_at td_ends 11 rfl) (by decide) ?_
      obtain ⟨r11, st9, hx10, hf⟩ := fc_of_bn hf
      refine mm_ci (As := [.int (0 : Int32)]) (rest := []) (n := 1) C hM (c_gainBy l D o ad cs fu (0 : Int32) st1) (List.mem_of_getElem? (i := 10) rfl) (dd_at td_ends 12 rfl) hx10 hl.1 hd_gainBy ⟨Nat.le_of_ble_eq_true rfl, Nat.le_of_ble_eq_true rfl⟩ rfl rfl (Nat.le_of_ble_eq_true rfl) ⟨Nat.le_refl 0, Nat.le_refl 0⟩ (fun H locs hM => ?_)
      refine lv_goto (tgt := 33) C.1 C.2.1 (dd_at td_ends 13 rfl) (by decide) ?_
      exact mm_ri C hM (dd_at td_ends 17 rfl) hf
  · replace hf := fc_of_t hf c4
    refine lv_ldcw (v := (-10000001 : Int32)) C.1 C.2.1 C.2.2.2.2.1 (C.2.2.2.2.2.1 (.constant RX12 287 (-10000001 : Int32)) (mm_Wk (by decide +kernel))) (dd_at td_ends 6 rfl) ?_
    exact mm_ri C hM (dd_at td_ends 7 rfl) hf
theorem c_ends (l : Launch) (D : va_G) (o : Nat) (ad : Nat → Nat) (cs : ClassId × ClassId × ClassId) (fu : Nat) (x1 : Int32) (st : mm_S) : mm_Mi l D o ad cs yX12_ends cX12_ends 2 (some .int) 5 128 [.int x1] st (M_ends fu x1 st) := by
  intro r st' hf
  refine mm_enter (cc := cX12_ends) (nL := 2) (ret := some .int) (by decide) rfl (Nat.le_of_ble_eq_true rfl) ?_
  intro p e s m args below meth c ls C hl hM
  exact w_ends C fu x1 st hf hl hM

/-! see -/
def tb_see : List (Nat × Instr × Nat) := [(0, .iload_n 1, 1), (1, .iconst (-1), 1), (2, .if_icmp .ne 10, 3), (5, .aload_n 0, 1), (6, .iconst 0, 1), (7, .putfield 106, 3), (10, .iconst 0, 1), (11, .ireturn, 1), (12, .aload_n 0, 1), (13, .iload_n 1, 1), (14, .invokevirtual 215, 3), (17, .ifCond .ne 5, 3), (20, .iconst (-1), 1), (21, .ireturn, 1), (22, .aload_n 0, 1), (23, .iload_n 2, 1), (24, .iconst 0, 1), (25, .sipush 999, 3), (28, .invokevirtual 207, 3), (31, .ifCond .eq 14, 3), (34, .aload_n 0, 1), (35, .iload_n 3, 1), (36, .iconst 0, 1), (37, .bipush 20, 2), (39, .invokevirtual 207, 3), (42, .ifCond .ne 6, 3), (45, .bipush (-2), 2), (47, .ireturn, 1), (48, .aload_n 0, 1), (49, .getfield 106, 3), (52, .iconst 5, 1), (53, .if_icmp .ne 6, 3), (56, .bipush (-4), 2), (58, .ireturn, 1), (59, .aload_n 0, 1), (60, .getfield 112, 3), (63, .aload_n 0, 1), (64, .getfield 106, 3), (67, .iload_n 1, 1), (68, .iastore, 1), (69, .aload_n 0, 1), (70, .getfield 115, 3), (73, .aload_n 0, 1), (74, .getfield 106, 3), (77, .iload_n 2, 1), (78, .iastore, 1), (79, .aload_n 0, 1), (80, .getfield 118, 3), (83, .aload_n 0, 1), (84, .getfield 106, 3), (87, .iload_n 3, 1), (88, .iastore, 1), (89, .aload_n 0, 1), (90, .dup, 1), (91, .getfield 106, 3), (94, .iconst 1, 1), (95, .iadd, 1), (96, .putfield 106, 3), (99, .aload_n 0, 1), (100, .getfield 106, 3), (103, .ireturn, 1)]
theorem td_see : tb_see.all (fun q => decide (decode cX12_see q.1 = .ok (q.2.1, q.2.2))) = true := by decide +kernel
theorem w_see {p : Program} {l : Launch} {e : Env} {s : State} {m : MethodId} {args : Array Value} {below : List Frame} {meth : Method} {c : Code} {D : va_G} {o : Nat} {ad : Nat → Nat} {cs : ClassId × ClassId × ClassId} {r : Int32} {st' : mm_S} (C : mm_C p s m args meth c cX12_see 4 (some .int) D cs) (fu : Nat) (x1 : Int32) (x2 : Int32) (x3 : Int32) (st : mm_S) (hf : M_see fu x1 x2 x3 st = some (r, st')) {H : Heap} {locs : List Loc} {ls : Array Slot} (hl : lv_has ls 4 [(0, .ref o), (1, .int x1), (2, .int x2), (3, .int x3)]) (hM : mm_H D o ad cs s.heap st H locs) : W p l e (mm_R 2 44) s m args below meth c H locs 0 0 (MQ below (mm_Qi D o ad cs r st') args s 0 0 (mm_A o ad)) (F0 m 0 ls []) := by
  unfold M_see at hf
  refine lv_iload_n C.1 C.2.1 (dd_at td_see 0 rfl) rfl (lv_at hl 1 rfl) ?_
  refine lv_iconst (v := (-1 : Int32)) C.1 C.2.1 (dd_at td_see 1 rfl) (by decide) ?_
  refine lv_icmp_ne (tgt := 12) C.1 C.2.1 (dd_at td_see 2 rfl) (by decide) (fun c1 => ?_) (fun c1 => ?_)
  · replace hf := fc_of_f hf c1
    refine lv_aload_n C.1 C.2.1 (dd_at td_see 8 rfl) rfl (lv_at hl 0 rfl) ?_
    refine lv_iload_n C.1 C.2.1 (dd_at td_see 9 rfl) rfl (lv_at hl 1 rfl) ?_
    obtain ⟨r4, st2, hx3, hf⟩ := fc_of_bn hf
    refine mm_ci (As := [.int x1]) (rest := []) (n := 1) C hM (c_isNeed l D o ad cs fu x1 st) (List.mem_of_getElem? (i := 22) rfl) (dd_at td_see 10 rfl) hx3 hl.1 hd_isNeed ⟨Nat.le_of_ble_eq_true rfl, Nat.le_of_ble_eq_true rfl⟩ rfl rfl (Nat.le_of_ble_eq_true rfl) ⟨Nat.le_refl 0, Nat.le_refl 0⟩ (fun H locs hM => ?_)
    refine lv_if_ne (tgt := 22) C.1 C.2.1 (dd_at td_see 11 rfl) (by decide) (fun c5 => ?_) (fun c5 => ?_)
    · replace hf := fc_of_f hf c5
      refine lv_aload_n C.1 C.2.1 (dd_at td_see 14 rfl) rfl (lv_at hl 0 rfl) ?_
      refine lv_iload_n C.1 C.2.1 (dd_at td_see 15 rfl) rfl (lv_at hl 2 rfl) ?_
      refine lv_iconst (v := (0 : Int32)) C.1 C.2.1 (dd_at td_see 16 rfl) (by decide) ?_
      refine lv_sipush (v := (999 : Int32)) C.1 C.2.1 (dd_at td_see 17 rfl) (by decide) ?_
      obtain ⟨r8, st6, hx7, hf⟩ := fc_of_bn hf
      refine mm_ci (As := [.int x2, .int (0 : Int32), .int (999 : Int32)]) (rest := []) (n := 3) C hM (c_in l D o ad cs fu x2 (0 : Int32) (999 : Int32) st2) (List.mem_of_getElem? (i := 18) rfl) (dd_at td_see 18 rfl) hx7 hl.1 hd_in ⟨Nat.le_of_ble_eq_true rfl, Nat.le_of_ble_eq_true rfl⟩ rfl rfl (Nat.le_of_ble_eq_true rfl) ⟨Nat.le_refl 0, Nat.le_refl 0⟩ (fun H locs hM => ?_)
      refine lv_if_eq (tgt := 45) C.1 C.2.1 (dd_at td_see 19 rfl) (by decide) (fun c9 => ?_) (fun c9 => ?_)
      · replace hf := fc_of_t hf c9
        refine lv_bipush (v := (-2 : Int32)) C.1 C.2.1 (dd_at td_see 26 rfl) (by decide) ?_
        exact mm_ri C hM (dd_at td_see 27 rfl) hf
      · replace hf := fc_of_f hf c9
        refine lv_aload_n C.1 C.2.1 (dd_at td_see 20 rfl) rfl (lv_at hl 0 rfl) ?_
        refine lv_iload_n C.1 C.2.1 (dd_at td_see 21 rfl) rfl (lv_at hl 3 rfl) ?_
        refine lv_iconst (v := (0 : Int32)) C.1 C.2.1 (dd_at td_see 22 rfl) (by decide) ?_
        refine lv_bipush (v := (20 : Int32)) C.1 C.2.1 (dd_at td_see 23 rfl) (by decide) ?_
        obtain ⟨r12, st10, hx11, hf⟩ := fc_of_bn hf
        refine mm_ci (As := [.int x3, .int (0 : Int32), .int (20 : Int32)]) (rest := []) (n := 3) C hM (c_in l D o ad cs fu x3 (0 : Int32) (20 : Int32) st6) (List.mem_of_getElem? (i := 18) rfl) (dd_at td_see 24 rfl) hx11 hl.1 hd_in ⟨Nat.le_of_ble_eq_true rfl, Nat.le_of_ble_eq_true rfl⟩ rfl rfl (Nat.le_of_ble_eq_true rfl) ⟨Nat.le_refl 0, Nat.le_refl 0⟩ (fun H locs hM => ?_)
        refine lv_if_ne (tgt := 48) C.1 C.2.1 (dd_at td_see 25 rfl) (by decide) (fun c13 => ?_) (fun c13 => ?_)
        · replace hf := fc_of_f hf c13
          refine lv_aload_n C.1 C.2.1 (dd_at td_see 28 rfl) rfl (lv_at hl 0 rfl) ?_
          refine mm_gI C hM 31 (dd_at td_see 29 rfl) (by decide) (by decide) (by decide) ?_
          refine lv_iconst (v := (5 : Int32)) C.1 C.2.1 (dd_at td_see 30 rfl) (by decide) ?_
          refine lv_icmp_ne (tgt := 59) C.1 C.2.1 (dd_at td_see 31 rfl) (by decide) (fun c14 => ?_) (fun c14 => ?_)
          · replace hf := fc_of_f hf c14
            refine lv_aload_n C.1 C.2.1 (dd_at td_see 34 rfl) rfl (lv_at hl 0 rfl) ?_
            refine mm_gA C hM 33 (dd_at td_see 35 rfl) (by decide) (by decide) (by decide) ?_
            refine lv_aload_n C.1 C.2.1 (dd_at td_see 36 rfl) rfl (lv_at hl 0 rfl) ?_
            refine mm_gI C hM 31 (dd_at td_see 37 rfl) (by decide) (by decide) (by decide) ?_
            refine lv_iload_n C.1 C.2.1 (dd_at td_see 38 rfl) rfl (lv_at hl 1 rfl) ?_
            obtain ⟨g15, hf⟩ := fc_of_gd hf
            refine mm_iast C hM 33 (dd_at td_see 39 rfl) (by decide) (by decide) (fc_of_ix g15) (fun st16 H locs est16 hM => ?_)
            replace hf := fc_of_nm hf st16 est16
            refine lv_aload_n C.1 C.2.1 (dd_at td_see 40 rfl) rfl (lv_at hl 0 rfl) ?_
            refine mm_gA C hM 34 (dd_at td_see 41 rfl) (by decide) (by decide) (by decide) ?_
            refine lv_aload_n C.1 C.2.1 (dd_at td_see 42 rfl) rfl (lv_at hl 0 rfl) ?_
            refine mm_gI C hM 31 (dd_at td_see 43 rfl) (by decide) (by decide) (by decide) ?_
            refine lv_iload_n C.1 C.2.1 (dd_at td_see 44 rfl) rfl (lv_at hl 2 rfl) ?_
            obtain ⟨g17, hf⟩ := fc_of_gd hf
            refine mm_iast C hM 34 (dd_at td_see 45 rfl) (by decide) (by decide) (fc_of_ix g17) (fun st18 H locs est18 hM => ?_)
            replace hf := fc_of_nm hf st18 est18
            refine lv_aload_n C.1 C.2.1 (dd_at td_see 46 rfl) rfl (lv_at hl 0 rfl) ?_
            refine mm_gA C hM 35 (dd_at td_see 47 rfl) (by decide) (by decide) (by decide) ?_
            refine lv_aload_n C.1 C.2.1 (dd_at td_see 48 rfl) rfl (lv_at hl 0 rfl) ?_
            refine mm_gI C hM 31 (dd_at td_see 49 rfl) (by decide) (by decide) (by decide) ?_
            refine lv_iload_n C.1 C.2.1 (dd_at td_see 50 rfl) rfl (lv_at hl 3 rfl) ?_
            obtain ⟨g19, hf⟩ := fc_of_gd hf
            refine mm_iast C hM 35 (dd_at td_see 51 rfl) (by decide) (by decide) (fc_of_ix g19) (fun st20 H locs est20 hM => ?_)
            replace hf := fc_of_nm hf st20 est20
            refine lv_aload_n C.1 C.2.1 (dd_at td_see 52 rfl) rfl (lv_at hl 0 rfl) ?_
            refine lv_dup C.1 C.2.1 (dd_at td_see 53 rfl) rfl ?_
            refine mm_gI C hM 31 (dd_at td_see 54 rfl) (by decide) (by decide) (by decide) ?_
            refine lv_iconst (v := (1 : Int32)) C.1 C.2.1 (dd_at td_see 55 rfl) (by decide) ?_
            refine lv_iadd C.1 C.2.1 (dd_at td_see 56 rfl) ?_
            refine mm_pI C hM 31 (dd_at td_see 57 rfl) (by decide) (by decide) (by decide) rfl rfl (fun st21 H locs est21 hM => ?_)
            replace hf := fc_of_nm hf st21 est21
            refine lv_aload_n C.1 C.2.1 (dd_at td_see 58 rfl) rfl (lv_at hl 0 rfl) ?_
            refine mm_gI C hM 31 (dd_at td_see 59 rfl) (by decide) (by decide) (by decide) ?_
            exact mm_ri C hM (dd_at td_see 60 rfl) hf
          · replace hf := fc_of_t hf c14
            refine lv_bipush (v := (-4 : Int32)) C.1 C.2.1 (dd_at td_see 32 rfl) (by decide) ?_
            exact mm_ri C hM (dd_at td_see 33 rfl) hf
        · replace hf := fc_of_t hf c13
          refine lv_bipush (v := (-2 : Int32)) C.1 C.2.1 (dd_at td_see 26 rfl) (by decide) ?_
          exact mm_ri C hM (dd_at td_see 27 rfl) hf
    · replace hf := fc_of_t hf c5
      refine lv_iconst (v := (-1 : Int32)) C.1 C.2.1 (dd_at td_see 12 rfl) (by decide) ?_
      exact mm_ri C hM (dd_at td_see 13 rfl) hf
  · replace hf := fc_of_t hf c1
    refine lv_aload_n C.1 C.2.1 (dd_at td_see 3 rfl) rfl (lv_at hl 0 rfl) ?_
    refine lv_iconst (v := (0 : Int32)) C.1 C.2.1 (dd_at td_see 4 rfl) (by decide) ?_
    refine mm_pI C hM 31 (dd_at td_see 5 rfl) (by decide) (by decide) (by decide) rfl rfl (fun st22 H locs est22 hM => ?_)
    replace hf := fc_of_nm hf st22 est22
    refine lv_iconst (v := (0 : Int32)) C.1 C.2.1 (dd_at td_see 6 rfl) (by decide) ?_
    exact mm_ri C hM (dd_at td_see 7 rfl) hf
theorem c_see (l : Launch) (D : va_G) (o : Nat) (ad : Nat → Nat) (cs : ClassId × ClassId × ClassId) (fu : Nat) (x1 : Int32) (x2 : Int32) (x3 : Int32) (st : mm_S) : mm_Mi l D o ad cs yX12_see cX12_see 4 (some .int) 2 44 [.int x1, .int x2, .int x3] st (M_see fu x1 x2 x3 st) := by
  intro r st' hf
  refine mm_enter (cc := cX12_see) (nL := 4) (ret := some .int) (by decide) rfl (Nat.le_of_ble_eq_true rfl) ?_
  intro p e s m args below meth c ls C hl hM
  exact w_see C fu x1 x2 x3 st hf hl hM

/-! isSeen -/
def tb_isSeen : List (Nat × Instr × Nat) := [(0, .iconst 0, 1), (1, .istore_n 2, 1), (2, .iload_n 2, 1), (3, .aload_n 0, 1), (4, .getfield 106, 3), (7, .if_icmp .ge 42, 3), (10, .aload_n 0, 1), (11, .aload_n 0, 1), (12, .getfield 112, 3), (15, .iload_n 2, 1), (16, .iaload, 1), (17, .aload_n 0, 1), (18, .getfield 19, 3), (21, .aload_n 0, 1), (22, .getfield 118, 3), (25, .iload_n 2, 1), (26, .iaload, 1), (27, .iadd, 1), (28, .iload_n 1, 1), (29, .invokevirtual 282, 3), (32, .aload_n 0, 1), (33, .getfield 115, 3), (36, .iload_n 2, 1), (37, .iaload, 1), (38, .if_icmp .eq 5, 3), (41, .iconst 0, 1), (42, .ireturn, 1), (43, .iinc 2 1, 3), (46, .goto (-44), 3), (49, .iconst 1, 1), (50, .ireturn, 1)]
theorem td_isSeen : tb_isSeen.all (fun q => decide (decode cX12_isSeen q.1 = .ok (q.2.1, q.2.2))) = true := by decide +kernel
theorem hd_isSeen : yX12_isSeen.cls = RX12 ∧ yX12_isSeen.cls ≠ "java/lang/invoke/MethodHandle" ∧ yX12_isSeen.cls ≠ "java/lang/invoke/VarHandle" ∧ (parseMethodDescriptor yX12_isSeen.desc).map (fun d => d.parameters.length) = some 1 := by decide +kernel
theorem w_isSeen_b2F {p : Program} {l : Launch} {e : Env} {s : State} {m : MethodId} {args : Array Value} {below : List Frame} {meth : Method} {c : Code} {D : va_G} {o : Nat} {ad : Nat → Nat} {cs : ClassId × ClassId × ClassId} {r : Int32} {st' : mm_S} (C : mm_C p s m args meth c cX12_isSeen 3 (some .boolean) D cs) (fu : Nat) (K2 : Int32 → Int32 → mm_S → Option (Int32 × mm_S)) (hK2 : ∀ (x1 : Int32) (x2 : Int32) (st : mm_S) (H : Heap) (locs : List Loc) (ls : Array Slot), K2 x1 x2 st = some (r, st') → lv_has ls 3 [(0, .ref o), (1, .int x1), (2, .int x2)] → mm_H D o ad cs s.heap st H locs → W p l e (mm_R 4 104) s m args below meth c H locs 0 0 (MQ below (mm_Qi D o ad cs r st') args s 0 0 (mm_A o ad)) (F0 m 2 ls [])) (x1 : Int32) (x2 : Int32) (st : mm_S) (hf : M_isSeen_b2F fu K2 x1 x2 st = some (r, st')) {H : Heap} {locs : List Loc} {ls : Array Slot} (hl : lv_has ls 3 [(0, .ref o), (1, .int x1), (2, .int x2)]) (hM : mm_H D o ad cs s.heap st H locs) : W p l e (mm_R 4 104) s m args below meth c H locs 0 0 (MQ below (mm_Qi D o ad cs r st') args s 0 0 (mm_A o ad)) (F0 m 2 ls []) := by
  unfold M_isSeen_b2F at hf
  refine lv_iload_n C.1 C.2.1 (dd_at td_isSeen 2 rfl) rfl (lv_at hl 2 rfl) ?_
  refine lv_aload_n C.1 C.2.1 (dd_at td_isSeen 3 rfl) rfl (lv_at hl 0 rfl) ?_
  refine mm_gI C hM 31 (dd_at td_isSeen 4 rfl) (by decide) (by decide) (by decide) ?_
  refine lv_icmp_ge (tgt := 49) C.1 C.2.1 (dd_at td_isSeen 5 rfl) (by decide) (fun c1 => ?_) (fun c1 => ?_)
  · replace hf := fc_of_t hf c1
    refine lv_iconst (v := (1 : Int32)) C.1 C.2.1 (dd_at td_isSeen 29 rfl) (by decide) ?_
    exact mm_rz C hM (dd_at td_isSeen 30 rfl) rfl hf
  · replace hf := fc_of_f hf c1
    refine lv_aload_n C.1 C.2.1 (dd_at td_isSeen 6 rfl) rfl (lv_at hl 0 rfl) ?_
    refine lv_aload_n C.1 C.2.1 (dd_at td_isSeen 7 rfl) rfl (lv_at hl 0 rfl) ?_
    refine mm_gA C hM 33 (dd_at td_isSeen 8 rfl) (by decide) (by decide) (by decide) ?_
    refine lv_iload_n C.1 C.2.1 (dd_at td_isSeen 9 rfl) rfl (lv_at hl 2 rfl) ?_
    obtain ⟨g2, hf⟩ := fc_of_gd hf
    refine mm_iald C hM 33 (dd_at td_isSeen 10 rfl) (by decide) (by decide) (fc_of_ix g2) ?_
    refine lv_aload_n C.1 C.2.1 (dd_at td_isSeen 11 rfl) rfl (lv_at hl 0 rfl) ?_
    refine mm_gI C hM 3 (dd_at td_isSeen 12 rfl) (by decide) (by decide) (by decide) ?_
    refine lv_aload_n C.1 C.2.1 (dd_at td_isSeen 13 rfl) rfl (lv_at hl 0 rfl) ?_
    refine mm_gA C hM 35 (dd_at td_isSeen 14 rfl) (by decide) (by decide) (by decide) ?_
    refine lv_iload_n C.1 C.2.1 (dd_at td_isSeen 15 rfl) rfl (lv_at hl 2 rfl) ?_
    obtain ⟨g3, hf⟩ := fc_of_gd hf
    refine mm_iald C hM 35 (dd_at td_isSeen 16 rfl) (by decide) (by decide) (fc_of_ix g3) ?_
    refine lv_iadd C.1 C.2.1 (dd_at td_isSeen 17 rfl) ?_
    refine lv_iload_n C.1 C.2.1 (dd_at td_isSeen 18 rfl) rfl (lv_at hl 1 rfl) ?_
    obtain ⟨r6, st4, hx5, hf⟩ := fc_of_bn hf
    refine mm_ci (As := [.int (mm_G st 33 x2.toNatClampNeg), .int ((mm_I st 3) + (mm_G st 35 x2.toNatClampNeg)), .int x1]) (rest := []) (n := 3) C hM (c_worthOf l D o ad cs fu (mm_G st 33 x2.toNatClampNeg) ((mm_I st 3) + (mm_G st 35 x2.toNatClampNeg)) x1 st) (List.mem_of_getElem? (i := 48) rfl) (dd_at td_isSeen 19 rfl) hx5 hl.1 hd_worthOf ⟨Nat.le_of_ble_eq_true rfl, Nat.le_of_ble_eq_true rfl⟩ rfl rfl (Nat.le_of_ble_eq_true rfl) ⟨Nat.le_refl 0, Nat.le_refl 0⟩ (fun H locs hM => ?_)
    refine lv_aload_n C.1 C.2.1 (dd_at td_isSeen 20 rfl) rfl (lv_at hl 0 rfl) ?_
    refine mm_gA C hM 34 (dd_at td_isSeen 21 rfl) (by decide) (by decide) (by decide) ?_
    refine lv_iload_n C.1 C.2.1 (dd_at td_isSeen 22 rfl) rfl (lv_at hl 2 rfl) ?_
    obtain ⟨g7, hf⟩ := fc_of_gd hf
    refine mm_iald C hM 34 (dd_at td_isSeen 23 rfl) (by decide) (by decide) (fc_of_ix g7) ?_
    refine lv_icmp_eq (tgt := 43) C.1 C.2.1 (dd_at td_isSeen 24 rfl) (by decide) (fun c8 => ?_) (fun c8 => ?_)
    · replace hf := fc_of_t hf c8
      obtain ⟨v9, ev9⟩ : ∃ y : Int32, y = x2 + (1 : Int32) := ⟨_, rfl⟩
      replace hf := fc_of_nm hf v9 ev9
      refine lv_iinc (v := v9) (lv' := [(2, .int v9), (0, .ref o), (1, .int x1)]) C.1 C.2.1 (dd_at td_isSeen 27 rfl) hl (k := 2) rfl (by rw [ev9]; rfl) (by decide) rfl (fun ls hl => ?_)
      refine lv_goto (tgt := 2) C.1 C.2.1 (dd_at td_isSeen 28 rfl) (by decide) ?_
      exact hK2 x1 v9 st4 _ _ _ hf (lv_sub hl [1, 2, 0] rfl) hM
    · replace hf := fc_of_f hf c8
      refine lv_iconst (v := (0 : Int32)) C.1 C.2.1 (dd_at td_isSeen 25 rfl) (by decide) ?_
      exact mm_rz C hM (dd_at td_isSeen 26 rfl) rfl hf
theorem w_isSeen_b2 {p : Program} {l : Launch} {e : Env} {s : State} {m : MethodId} {args : Array Value} {below : List Frame} {meth : Method} {c : Code} {D : va_G} {o : Nat} {ad : Nat → Nat} {cs : ClassId × ClassId × ClassId} {r : Int32} {st' : mm_S} (C : mm_C p s m args meth c cX12_isSeen 3 (some .boolean) D cs) (fu : Nat) (n : Nat) : ∀ (x1 : Int32) (x2 : Int32) (st : mm_S), M_isSeen_b2 fu n x1 x2 st = some (r, st') → ∀ (H : Heap) (locs : List Loc) (ls : Array Slot), lv_has ls 3 [(0, .ref o), (1, .int x1), (2, .int x2)] → mm_H D o ad cs s.heap st H locs → W p l e (mm_R 4 104) s m args below meth c H locs 0 0 (MQ below (mm_Qi D o ad cs r st') args s 0 0 (mm_A o ad)) (F0 m 2 ls []) := by
  induction n with
  | zero => exact fun _ _ _ hf => fc_no hf
  | succ n ih =>
    intro x1 x2 st hf H locs ls hl hM
    exact w_isSeen_b2F C fu (fun x1 x2 st => M_isSeen_b2 fu n x1 x2 st) (fun x1 x2 st H locs ls hf hl hM => ih x1 x2 st hf H locs ls hl hM) x1 x2 st hf hl hM
theorem w_isSeen {p : Program} {l : Launch} {e : Env} {s : State} {m : MethodId} {args : Array Value} {below : List Frame} {meth : Method} {c : Code} {D : va_G} {o : Nat} {ad : Nat → Nat} {cs : ClassId × ClassId × ClassId} {r : Int32} {st' : mm_S} (C : mm_C p s m args meth c cX12_isSeen 3 (some .boolean) D cs) (fu : Nat) (x1 : Int32) (st : mm_S) (hf : M_isSeen fu x1 st = some (r, st')) {H : Heap} {locs : List Loc} {ls : Array Slot} (hl : lv_has ls 3 [(0, .ref o), (1, .int x1)]) (hM : mm_H D o ad cs s.heap st H locs) : W p l e (mm_R 4 104) s m args below meth c H locs 0 0 (MQ below (mm_Qi D o ad cs r st') args s 0 0 (mm_A o ad)) (F0 m 0 ls []) := by
  unfold M_isSeen at hf
  refine lv_iconst (v := (0 : Int32)) C.1 C.2.1 (dd_at td_isSeen 0 rfl) (by decide) ?_
  refine lv_istore_n (lv' := [(2, .int (0 : Int32)), (0, .ref o), (1, .int x1)]) C.1 C.2.1 (dd_at td_isSeen 1 rfl) rfl hl (by decide) rfl (fun ls hl => ?_)
  exact w_isSeen_b2 C fu fu x1 (0 : Int32) st hf _ _ _ (lv_sub hl [1, 2, 0] rfl) hM
theorem c_isSeen (l : Launch) (D : va_G) (o : Nat) (ad : Nat → Nat) (cs : ClassId × ClassId × ClassId) (fu : Nat) (x1 : Int32) (st : mm_S) : mm_Mi l D o ad cs yX12_isSeen cX12_isSeen 3 (some .boolean) 4 104 [.int x1] st (M_isSeen fu x1 st) := by
  intro r st' hf
  refine mm_enter (cc := cX12_isSeen) (nL := 3) (ret := some .boolean) (by decide) rfl (Nat.le_of_ble_eq_true rfl) ?_
  intro p e s m args below meth c ls C hl hM
  exact w_isSeen C fu x1 st hf hl hM

/-! can -/
def tb_can : List (Nat × Instr × Nat) := [(0, .aload_n 0, 1), (1, .iload_n 1, 1), (2, .invokevirtual 215, 3), (5, .ifCond .eq 13, 3), (8, .aload_n 0, 1), (9, .iload_n 2, 1), (10, .iconst 0, 1), (11, .iconst 1, 1), (12, .invokevirtual 207, 3), (15, .ifCond .ne 5, 3), (18, .iconst (-1), 1), (19, .ireturn, 1), (20, .aload_n 0, 1), (21, .getfield 26, 3), (24, .iload_n 1, 1), (25, .iaload, 1), (26, .istore_n 3, 1), (27, .iconst 0, 1), (28, .istore 4, 2), (30, .bipush (-5), 2), (32, .istore 5, 2), (34, .bipush 9, 2), (36, .istore 6, 2), (38, .iload 6, 2), (40, .ifCond .lt 38, 3), (43, .aload_n 0, 1), (44, .getfield 26, 3), (47, .iload_n 1, 1), (48, .iload 6, 2), (50, .iastore, 1), (51, .aload_n 0, 1), (52, .aload_n 0, 1), (53, .getfield 13, 3), (56, .invokevirtual 340, 3), (59, .ifCond .ne 6, 3), (62, .goto 10, 3), (65, .iinc 4 1, 3), (68, .iload 6, 2), (70, .istore 5, 2), (72, .iinc 6 (-1), 3), (75, .goto (-37), 3), (78, .aload_n 0, 1), (79, .getfield 26, 3), (82, .iload_n 1, 1), (83, .iload_n 3, 1), (84, .iastore, 1), (85, .iload_n 2, 1), (86, .ifCond .ne 8, 3), (89, .iload 4, 2), (91, .goto 5, 3), (94, .iload 5, 2), (96, .ireturn, 1)]
theorem td_can : tb_can.all (fun q => decide (decode cX12_can q.1 = .ok (q.2.1, q.2.2))) = true := by decide +kernel
theorem w_can_b72 {p : Program} {l : Launch} {e : Env} {s : State} {m : MethodId} {args : Array Value} {below : List Frame} {meth : Method} {c : Code} {D : va_G} {o : Nat} {ad : Nat → Nat} {cs : ClassId × ClassId × ClassId} {r : Int32} {st' : mm_S} (C : mm_C p s m args meth c cX12_can 7 (some .int) D cs) (fu : Nat) (K38 : Int32 → Int32 → Int32 → Int32 → Int32 → Int32 → mm_S → Option (Int32 × mm_S)) (hK38 : ∀ (x1 : Int32) (x2 : Int32) (x3 : Int32) (x4 : Int32) (x5 : Int32) (x6 : Int32) (st : mm_S) (H : Heap) (locs : List Loc) (ls : Array Slot), K38 x1 x2 x3 x4 x5 x6 st = some (r, st') → lv_has ls 7 [(0, .ref o), (1, .int x1), (2, .int x2), (3, .int x3), (4, .int x4), (5, .int x5), (6, .int x6)] → mm_H D o ad cs s.heap st H locs → W p l e (mm_R 5 126) s m args below meth c H locs 0 0 (MQ below (mm_Qi D o ad cs r st') args s 0 0 (mm_A o ad)) (F0 m 38 ls [])) (x1 : Int32) (x2 : Int32) (x3 : Int32) (x4 : Int32) (x5 : Int32) (x6 : Int32) (st : mm_S) (hf : M_can_b72 fu K38 x1 x2 x3 x4 x5 x6 st = some (r, st')) {H : Heap} {locs : List Loc} {ls : Array Slot} (hl : lv_has ls 7 [(0, .ref o), (1, .int x1), (2, .int x2), (3, .int x3), (4, .int x4), (5, .int x5), (6, .int x6)]) (hM : mm_H D o ad cs s.heap st H locs) : W p l e (mm_R 5 126) s m args below meth c H locs 0 0 (MQ below (mm_Qi D o ad cs r st') args s 0 0 (mm_A o ad)) (F0 m 72 ls []) := by
  unfold M_can_b72 at hf
  obtain ⟨v22, ev22⟩ : ∃ y : Int32, y = x6 + (-1 : Int32) := ⟨_, rfl⟩
  replace hf := fc_of_nm hf v22 ev22
  refine lv_iinc (v := v22) (lv' := [(6, .int v22), (0, .ref o), (1, .int x1), (2, .int x2), (3, .int x3), (4, .int x4), (5, .int x5)]) C.1 C.2.1 (dd_at td_can 39 rfl) hl (k := 6) rfl (by rw [ev22]; rfl) (by decide) rfl (fun ls hl => ?_)
  refine lv_goto (tgt := 38) C.1 C.2.1 (dd_at td_can 40 rfl) (by decide) ?_
  exact hK38 x1 x2 x3 x4 x5 v22 st _ _ _ hf (lv_sub hl [1, 2, 3, 4, 5, 6, 0] rfl) hM
theorem w_can_b38F {p : Program} {l : Launch} {e : Env} {s : State} {m : MethodId} {args : Array Value} {below : List Frame} {meth : Method} {c : Code} {D : va_G} {o : Nat} {ad : Nat → Nat} {cs : ClassId × ClassId × ClassId} {r : Int32} {st' : mm_S} (C : mm_C p s m args meth c cX12_can 7 (some .int) D cs) (fu : Nat) (K38 : Int32 → Int32 → Int32 → Int32 → Int32 → Int32 → mm_S → Option (Int32 × mm_S)) (hK38 : ∀ (x1 : Int32) (x2 : Int32) (x3 : Int32) (x4 : Int32) (x5 : Int32) (x6 : Int32) (st : mm_S) (H : Heap) (locs : List Loc) (ls : Array Slot), K38 x1 x2 x3 x4 x5 x6 st = some (r, st') → lv_has ls 7 [(0, .ref o), (1, .int x1), (2, .int x2), (3, .int x3), (4, .int x4), (5, .int x5), (6, .int x6)] → mm_H D o ad cs s.heap st H locs → W p l e (mm_R 5 126) s m args below meth c H locs 0 0 (MQ below (mm_Qi D o ad cs r st') args s 0 0 (mm_A o ad)) (F0 m 38 ls [])) (x1 : Int32) (x2 : Int32) (x3 : Int32) (x4 : Int32) (x5 : Int32) (x6 : Int32) (st : mm_S) (hf : M_can_b38F fu K38 x1 x2 x3 x4 x5 x6 st = some (r, st')) {H : Heap} {locs : List Loc} {ls : Array Slot} (hl : lv_has ls 7 [(0, .ref o), (1, .int x1), (2, .int x2), (3, .int x3), (4, .int x4), (5, .int x5), (6, .int x6)]) (hM : mm_H D o ad cs s.heap st H locs) : W p l e (mm_R 5 126) s m args below meth c H locs 0 0 (MQ below (mm_Qi D o ad cs r st') args s 0 0 (mm_A o ad)) (F0 m 38 ls []) := by
  unfold M_can_b38F at hf
  refine lv_iload C.1 C.2.1 (dd_at td_can 23 rfl) (lv_at hl 6 rfl) ?_
  refine lv_if_lt (tgt := 78) C.1 C.2.1 (dd_at td_can 24 rfl) (by decide) (fun c11 => ?_) (fun c11 => ?_)
  · replace hf := fc_of_t hf c11
    refine lv_aload_n C.1 C.2.1 (dd_at td_can 41 rfl) rfl (lv_at hl 0 rfl) ?_
    refine mm_gA C hM 5 (dd_at td_can 42 rfl) (by decide) (by decide) (by decide) ?_
    refine lv_iload_n C.1 C.2.1 (dd_at td_can 43 rfl) rfl (lv_at hl 1 rfl) ?_
    refine lv_iload_n C.1 C.2.1 (dd_at td_can 44 rfl) rfl (lv_at hl 3 rfl) ?_
    obtain ⟨g12, hf⟩ := fc_of_gd hf
    refine mm_iast C hM 5 (dd_at td_can 45 rfl) (by decide) (by decide) (fc_of_ix g12) (fun st13 H locs est13 hM => ?_)
    replace hf := fc_of_nm hf st13 est13
    refine lv_iload_n C.1 C.2.1 (dd_at td_can 46 rfl) rfl (lv_at hl 2 rfl) ?_
    refine lv_if_ne (tgt := 94) C.1 C.2.1 (dd_at td_can 47 rfl) (by decide) (fun c14 => ?_) (fun c14 => ?_)
    · replace hf := fc_of_f hf c14
      refine lv_iload C.1 C.2.1 (dd_at td_can 50 rfl) (lv_at hl 5 rfl) ?_
      exact mm_ri C hM (dd_at td_can 51 rfl) hf
    · replace hf := fc_of_t hf c14
      refine lv_iload C.1 C.2.1 (dd_at td_can 48 rfl) (lv_at hl 4 rfl) ?_
      refine lv_goto (tgt := 96) C.1 C.2.1 (dd_at td_can 49 rfl) (by decide) ?_
      exact mm_ri C hM (dd_at td_can 51 rfl) hf
  · replace hf := fc_of_f hf c11
    refine lv_aload_n C.1 C.2.1 (dd_at td_can 25 rfl) rfl (lv_at hl 0 rfl) ?_
    refine mm_gA C hM 5 (dd_at td_can 26 rfl) (by decide) (by decide) (by decide) ?_
    refine lv_iload_n C.1 C.2.1 (dd_at td_can 27 rfl) rfl (lv_at hl 1 rfl) ?_
    refine lv_iload C.1 C.2.1 (dd_at td_can 28 rfl) (lv_at hl 6 rfl) ?_
    obtain ⟨g15, hf⟩ := fc_of_gd hf
    refine mm_iast C hM 5 (dd_at td_can 29 rfl) (by decide) (by decide) (fc_of_ix g15) (fun st16 H locs est16 hM => ?_)
    replace hf := fc_of_nm hf st16 est16
    refine lv_aload_n C.1 C.2.1 (dd_at td_can 30 rfl) rfl (lv_at hl 0 rfl) ?_
    refine lv_aload_n C.1 C.2.1 (dd_at td_can 31 rfl) rfl (lv_at hl 0 rfl) ?_
    refine mm_gI C hM 1 (dd_at td_can 32 rfl) (by decide) (by decide) (by decide) ?_
    obtain ⟨r19, st17, hx18, hf⟩ := fc_of_bn hf
    refine mm_ci (As := [.int (mm_I st16 1)]) (rest := []) (n := 1) C hM (c_isSeen l D o ad cs fu (mm_I st16 1) st16) (List.mem_of_getElem? (i := 23) rfl) (dd_at td_can 33 rfl) hx18 hl.1 hd_isSeen ⟨Nat.le_of_ble_eq_true rfl, Nat.le_of_ble_eq_true rfl⟩ rfl rfl (Nat.le_of_ble_eq_true rfl) ⟨Nat.le_refl 0, Nat.le_refl 0⟩ (fun H locs hM => ?_)
    refine lv_if_ne (tgt := 65) C.1 C.2.1 (dd_at td_can 34 rfl) (by decide) (fun c20 => ?_) (fun c20 => ?_)
    · replace hf := fc_of_f hf c20
      obtain ⟨v21, ev21⟩ : ∃ y : Int32, y = x4 + (1 : Int32) := ⟨_, rfl⟩
      replace hf := fc_of_nm hf v21 ev21
      refine lv_iinc (v := v21) (lv' := [(4, .int v21), (0, .ref o), (1, .int x1), (2, .int x2), (3, .int x3), (5, .int x5), (6, .int x6)]) C.1 C.2.1 (dd_at td_can 36 rfl) hl (k := 4) rfl (by rw [ev21]; rfl) (by decide) rfl (fun ls hl => ?_)
      refine lv_iload C.1 C.2.1 (dd_at td_can 37 rfl) (lv_at hl 6 rfl) ?_
      refine lv_istore (lv' := [(5, .int x6), (4, .int v21), (0, .ref o), (1, .int x1), (2, .int x2), (3, .int x3), (6, .int x6)]) C.1 C.2.1 (dd_at td_can 38 rfl) hl (by decide) rfl (fun ls hl => ?_)
      exact w_can_b72 C fu K38 hK38 x1 x2 x3 v21 x6 x6 st17 hf (lv_sub hl [2, 3, 4, 5, 1, 0, 6] rfl) hM
    · replace hf := fc_of_t hf c20
      refine lv_goto (tgt := 72) C.1 C.2.1 (dd_at td_can 35 rfl) (by decide) ?_
      exact w_can_b72 C fu K38 hK38 x1 x2 x3 x4 x5 x6 st17 hf (lv_sub hl [0, 1, 2, 3, 4, 5, 6] rfl) hM
theorem w_can_b38 {p : Program} {l : Launch} {e : Env} {s : State} {m : MethodId} {args : Array Value} {below : List Frame} {meth : Method} {c : Code} {D : va_G} {o : Nat} {ad : Nat → Nat} {cs : ClassId × ClassId × ClassId} {r : Int32} {st' : mm_S} (C : mm_C p s m args meth c cX12_can 7 (some .int) D cs) (fu : Nat) (n : Nat) : ∀ (x1 : Int32) (x2 : Int32) (x3 : Int32) (x4 : Int32) (x5 : Int32) (x6 : Int32) (st : mm_S), M_can_b38 fu n x1 x2 x3 x4 x5 x6 st = some (r, st') → ∀ (H : Heap) (locs : List Loc) (ls : Array Slot), lv_has ls 7 [(0, .ref o), (1, .int x1), (2, .int x2), (3, .int x3), (4, .int x4), (5, .int x5), (6, .int x6)] → mm_H D o ad cs s.heap st H locs → W p l e (mm_R 5 126) s m args below meth c H locs 0 0 (MQ below (mm_Qi D o ad cs r st') args s 0 0 (mm_A o ad)) (F0 m 38 ls []) := by
  induction n with
  | zero => exact fun _ _ _ _ _ _ _ hf => fc_no hf
  | succ n ih =>
    intro x1 x2 x3 x4 x5 x6 st hf H locs ls hl hM
    exact w_can_b38F C fu (fun x1 x2 x3 x4 x5 x6 st => M_can_b38 fu n x1 x2 x3 x4 x5 x6 st) (fun x1 x2 x3 x4 x5 x6 st H locs ls hf hl hM => ih x1 x2 x3 x4 x5 x6 st hf H locs ls hl hM) x1 x2 x3 x4 x5 x6 st hf hl hM
theorem w_can {p : Program} {l : Launch} {e : Env} {s : State} {m : MethodId} {args : Array Value} {below : List Frame} {meth : Method} {c : Code} {D : va_G} {o : Nat} {ad : Nat → Nat} {cs : ClassId × ClassId × ClassId} {r : Int32} {st' : mm_S} (C : mm_C p s m args meth c cX12_can 7 (some .int) D cs) (fu : Nat) (x1 : Int32) (x2 : Int32) (st : mm_S) (hf : M_can fu x1 x2 st = some (r, st')) {H : Heap} {locs : List Loc} {ls : Array Slot} (hl : lv_has ls 7 [(0, .ref o), (1, .int x1), (2, .int x2)]) (hM : mm_H D o ad cs s.heap st H locs) : W p l e (mm_R 5 126) s m args below meth c H locs 0 0 (MQ below (mm_Qi D o ad cs r st') args s 0 0 (mm_A o ad)) (F0 m 0 ls []) := by
  unfold M_can at hf
  refine lv_aload_n C.1 C.2.1 (dd_at td_can 0 rfl) rfl (lv_at hl 0 rfl) ?_
  refine lv_iload_n C.1 C.2.1 (dd_at td_can 1 rfl) rfl (lv_at hl 1 rfl) ?_
  obtain ⟨r3, st1, hx2, hf⟩ := fc_of_bn hf
  refine mm_ci (As := [.int x1]) (rest := []) (n := 1) C hM (c_isNeed l D o ad cs fu x1 st) (List.mem_of_getElem? (i := 22) rfl) (dd_at td_can 2 rfl) hx2 hl.1 hd_isNeed ⟨Nat.le_of_ble_eq_true rfl, Nat.le_of_ble_eq_true rfl⟩ rfl rfl (Nat.le_of_ble_eq_true rfl) ⟨Nat.le_refl 0, Nat.le_refl 0⟩ (fun H locs hM => ?_)
  refine lv_if_eq (tgt := 18) C.1 C.2.1 (dd_at td_can 3 rfl) (by decide) (fun c4 => ?_) (fun c4 => ?_)
  · replace hf := fc_of_t hf c4
    refine lv_iconst (v := (-1 : Int32)) C.1 C.2.1 (dd_at td_can 10 rfl) (by decide) ?_
    exact mm_ri C hM (dd_at td_can 11 rfl) hf
  · replace hf := fc_of_f hf c4
    refine lv_aload_n C.1 C.2.1 (dd_at td_can 4 rfl) rfl (lv_at hl 0 rfl) ?_
    refine lv_iload_n C.1 C.2.1 (dd_at td_can 5 rfl) rfl (lv_at hl 2 rfl) ?_
    refine lv_iconst (v := (0 : Int32)) C.1 C.2.1 (dd_at td_can 6 rfl) (by decide) ?_
    refine lv_iconst (v := (1 : Int32)) C.1 C.2.1 (dd_at td_can 7 rfl) (by decide) ?_
    obtain ⟨r7, st5, hx6, hf⟩ := fc_of_bn hf
    refine mm_ci (As := [.int x2, .int (0 : Int32), .int (1 : Int32)]) (rest := []) (n := 3) C hM (c_in l D o ad cs fu x2 (0 : Int32) (1 : Int32) st1) (List.mem_of_getElem? (i := 18) rfl) (dd_at td_can 8 rfl) hx6 hl.1 hd_in ⟨Nat.le_of_ble_eq_true rfl, Nat.le_of_ble_eq_true rfl⟩ rfl rfl (Nat.le_of_ble_eq_true rfl) ⟨Nat.le_refl 0, Nat.le_refl 0⟩ (fun H locs hM => ?_)
    refine lv_if_ne (tgt := 20) C.1 C.2.1 (dd_at td_can 9 rfl) (by decide) (fun c8 => ?_) (fun c8 => ?_)
    · replace hf := fc_of_f hf c8
      refine lv_aload_n C.1 C.2.1 (dd_at td_can 12 rfl) rfl (lv_at hl 0 rfl) ?_
      refine mm_gA C hM 5 (dd_at td_can 13 rfl) (by decide) (by decide) (by decide) ?_
      refine lv_iload_n C.1 C.2.1 (dd_at td_can 14 rfl) rfl (lv_at hl 1 rfl) ?_
      obtain ⟨g9, hf⟩ := fc_of_gd hf
      refine mm_iald C hM 5 (dd_at td_can 15 rfl) (by decide) (by decide) (fc_of_ix g9) ?_
      refine lv_topi (fun v10 ev10 => ?_)
      replace hf := fc_of_nm hf v10 ev10
      refine lv_istore_n (lv' := [(3, .int v10), (0, .ref o), (1, .int x1), (2, .int x2)]) C.1 C.2.1 (dd_at td_can 16 rfl) rfl hl (by decide) rfl (fun ls hl => ?_)
      refine lv_iconst (v := (0 : Int32)) C.1 C.2.1 (dd_at td_can 17 rfl) (by decide) ?_
      refine lv_istore (lv' := [(4, .int (0 : Int32)), (3, .int v10), (0, .ref o), (1, .int x1), (2, .int x2)]) C.1 C.2.1 (dd_at td_can 18 rfl) hl (by decide) rfl (fun ls hl => ?_)
      refine lv_bipush (v := (-5 : Int32)) C.1 C.2.1 (dd_at td_can 19 rfl) (by decide) ?_
      refine lv_istore (lv' := [(5, .int (-5 : Int32)), (4, .int (0 : Int32)), (3, .int v10), (0, .ref o), (1, .int x1), (2, .int x2)]) C.1 C.2.1 (dd_at td_can 20 rfl) hl (by decide) rfl (fun ls hl => ?_)
      refine lv_bipush (v := (9 : Int32)) C.1 C.2.1 (dd_at td_can 21 rfl) (by decide) ?_
      refine lv_istore (lv' := [(6, .int (9 : Int32)), (5, .int (-5 : Int32)), (4, .int (0 : Int32)), (3, .int v10), (0, .ref o), (1, .int x1), (2, .int x2)]) C.1 C.2.1 (dd_at td_can 22 rfl) hl (by decide) rfl (fun ls hl => ?_)
      exact w_can_b38 C fu fu x1 x2 v10 (0 : Int32) (-5 : Int32) (9 : Int32) st5 hf _ _ _ (lv_sub hl [4, 5, 6, 3, 2, 1, 0] rfl) hM
    · replace hf := fc_of_t hf c8
      refine lv_iconst (v := (-1 : Int32)) C.1 C.2.1 (dd_at td_can 10 rfl) (by decide) ?_
      exact mm_ri C hM (dd_at td_can 11 rfl) hf
theorem c_can (l : Launch) (D : va_G) (o : Nat) (ad : Nat → Nat) (cs : ClassId × ClassId × ClassId) (fu : Nat) (x1 : Int32) (x2 : Int32) (st : mm_S) : mm_Mi l D o ad cs yX12_can cX12_can 7 (some .int) 5 126 [.int x1, .int x2] st (M_can fu x1 x2 st) := by
  intro r st' hf
  refine mm_enter (cc := cX12_can) (nL := 7) (ret := some .int) (by decide) rfl (Nat.le_of_ble_eq_true rfl) ?_
  intro p e s m args below meth c ls C hl hM
  exact w_can C fu x1 x2 st hf hl hM

/-! darked -/
def tb_darked : List (Nat × Instr × Nat) := [(0, .aload_n 0, 1), (1, .iload_n 1, 1), (2, .iconst 0, 1), (3, .iconst 1, 1), (4, .invokevirtual 207, 3), (7, .ifCond .ne 5, 3), (10, .iconst (-1), 1), (11, .ireturn, 1), (12, .iconst 0, 1), (13, .istore_n 2, 1), (14, .bipush (-5), 2), (16, .istore_n 3, 1), (17, .bipush 8, 2), (19, .istore 4, 2), (21, .iload 4, 2), (23, .ifCond .lt 27, 3), (26, .aload_n 0, 1), (27, .iload 4, 2), (29, .invokevirtual 340, 3), (32, .ifCond .ne 6, 3), (35, .goto 9, 3), (38, .iinc 2 1, 3), (41, .iload 4, 2), (43, .istore_n 3, 1), (44, .iinc 4 (-1), 3), (47, .goto (-26), 3), (50, .iload_n 1, 1), (51, .ifCond .ne 7, 3), (54, .iload_n 2, 1), (55, .goto 4, 3), (58, .iload_n 3, 1), (59, .ireturn, 1)]
theorem td_darked : tb_darked.all (fun q => decide (decode cX12_darked q.1 = .ok (q.2.1, q.2.2))) = true := by decide +kernel
theorem w_darked_b44 {p : Program} {l : Launch} {e : Env} {s : State} {m : MethodId} {args : Array Value} {below : List Frame} {meth : Method} {c : Code} {D : va_G} {o : Nat} {ad : Nat → Nat} {cs : ClassId × ClassId × ClassId} {r : Int32} {st' : mm_S} (C : mm_C p s m args meth c cX12_darked 5 (some .int) D cs) (fu : Nat) (K21 : Int32 → Int32 → Int32 → Int32 → mm_S → Option (Int32 × mm_S)) (hK21 : ∀ (x1 : Int32) (x2 : Int32) (x3 : Int32) (x4 : Int32) (st : mm_S) (H : Heap) (locs : List Loc) (ls : Array Slot), K21 x1 x2 x3 x4 st = some (r, st') → lv_has ls 5 [(0, .ref o), (1, .int x1), (2, .int x2), (3, .int x3), (4, .int x4)] → mm_H D o ad cs s.heap st H locs → W p l e (mm_R 5 126) s m args below meth c H locs 0 0 (MQ below (mm_Qi D o ad cs r st') args s 0 0 (mm_A o ad)) (F0 m 21 ls [])) (x1 : Int32) (x2 : Int32) (x3 : Int32) (x4 : Int32) (st : mm_S) (hf : M_darked_b44 fu K21 x1 x2 x3 x4 st = some (r, st')) {H : Heap} {locs : List Loc} {ls : Array Slot} (hl : lv_has ls 5 [(0, .ref o), (1, .int x1), (2, .int x2), (3, .int x3), (4, .int x4)]) (hM : mm_H D o ad cs s.heap st H locs) : W p l e (mm_R 5 126) s m args below meth c H locs 0 0 (MQ below (mm_Qi D o ad cs r st') args s 0 0 (mm_A o ad)) (F0 m 44 ls []) := by
  unfold M_darked_b44 at hf
  obtain ⟨v12, ev12⟩ : ∃ y : Int32, y = x4 + (-1 : Int32) := ⟨_, rfl⟩
  replace hf := fc_of_nm hf v12 ev12
  refine lv_iinc (v := v12) (lv' := [(4, .int v12), (0, .ref o), (1, .int x1), (2, .int x2), (3, .int x3)]) C.1 C.2.1 (dd_at td_darked 24 rfl) hl (k := 4) rfl (by rw [ev12]; rfl) (by decide) rfl (fun ls hl => ?_)
  refine lv_goto (tgt := 21) C.1 C.2.1 (dd_at td_darked 25 rfl) (by decide) ?_
  exact hK21 x1 x2 x3 v12 st _ _ _ hf (lv_sub hl [1, 2, 3, 4, 0] rfl) hM
theorem w_darked_b21F {p : Program} {l : Launch} {e : Env} {s : State} {m : MethodId} {args : Array Value} {below : List Frame} {meth : Method} {c : Code} {D : va_G} {o : Nat} {ad : Nat → Nat} {cs : ClassId × ClassId × ClassId} {r : Int32} {st' : mm_S} (C : mm_C p s m args meth c cX12_darked 5 (some .int) D cs) (fu : Nat) (K21 : Int32 → Int32 → Int32 → Int32 → mm_S → Option (Int32 × mm_S)) (hK21 : ∀ (x1 : Int32) (x2 : Int32) (x3 : Int32) (x4 : Int32) (st : mm_S) (H : Heap) (locs : List Loc) (ls : Array Slot), K21 x1 x2 x3 x4 st = some (r, st') → lv_has ls 5 [(0, .ref o), (1, .int x1), (2, .int x2), (3, .int x3), (4, .int x4)] → mm_H D o ad cs s.heap st H locs → W p l e (mm_R 5 126) s m args below meth c H locs 0 0 (MQ below (mm_Qi D o ad cs r st') args s 0 0 (mm_A o ad)) (F0 m 21 ls [])) (x1 : Int32) (x2 : Int32) (x3 : Int32) (x4 : Int32) (st : mm_S) (hf : M_darked_b21F fu K21 x1 x2 x3 x4 st = some (r, st')) {H : Heap} {locs : List Loc} {ls : Array Slot} (hl : lv_has ls 5 [(0, .ref o), (1, .int x1), (2, .int x2), (3, .int x3), (4, .int x4)]) (hM : mm_H D o ad cs s.heap st H locs) : W p l e (mm_R 5 126) s m args below meth c H locs 0 0 (MQ below (mm_Qi D o ad cs r st') args s 0 0 (mm_A o ad)) (F0 m 21 ls []) := by
  unfold M_darked_b21F at hf
  refine lv_iload C.1 C.2.1 (dd_at td_darked 14 rfl) (lv_at hl 4 rfl) ?_
  refine lv_if_lt (tgt := 50) C.1 C.2.1 (dd_at td_darked 15 rfl) (by decide) (fun c5 => ?_) (fun c5 => ?_)
  · replace hf := fc_of_t hf c5
    refine lv_iload_n C.1 C.2.1 (dd_at td_darked 26 rfl) rfl (lv_at hl 1 rfl) ?_
    refine lv_if_ne (tgt := 58) C.1 C.2.1 (dd_at td_darked 27 rfl) (by decide) (fun c6 => ?_) (fun c6 => ?_)
    · replace hf := fc_of_f hf c6
      refine lv_iload_n C.1 C.2.1 (dd_at td_darked 30 rfl) rfl (lv_at hl 3 rfl) ?_
      exact mm_ri C hM (dd_at td_darked 31 rfl) hf
    · replace hf := fc_of_t hf c6
      refine lv_iload_n C.1 C.2.1 (dd_at td_darked 28 rfl) rfl (lv_at hl 2 rfl) ?_
      refine lv_goto (tgt := 59) C.1 C.2.1 (dd_at td_darked 29 rfl) (by decide) ?_
      exact mm_ri C hM (dd_at td_darked 31 rfl) hf
  · replace hf := fc_of_f hf c5
    refine lv_aload_n C.1 C.2.1 (dd_at td_darked 16 rfl) rfl (lv_at hl 0 rfl) ?_
    refine lv_iload C.1 C.2.1 (dd_at td_darked 17 rfl) (lv_at hl 4 rfl) ?_
    obtain ⟨r9, st7, hx8, hf⟩ := fc_of_bn hf
    refine mm_ci (As := [.int x4]) (rest := []) (n := 1) C hM (c_isSeen l D o ad cs fu x4 st) (List.mem_of_getElem? (i := 23) rfl) (dd_at td_darked 18 rfl) hx8 hl.1 hd_isSeen ⟨Nat.le_of_ble_eq_true rfl, Nat.le_of_ble_eq_true rfl⟩ rfl rfl (Nat.le_of_ble_eq_true rfl) ⟨Nat.le_refl 0, Nat.le_refl 0⟩ (fun H locs hM => ?_)
    refine lv_if_ne (tgt := 38) C.1 C.2.1 (dd_at td_darked 19 rfl) (by decide) (fun c10 => ?_) (fun c10 => ?_)
    · replace hf := fc_of_f hf c10
      obtain ⟨v11, ev11⟩ : ∃ y : Int32, y = x2 + (1 : Int32) := ⟨_, rfl⟩
      replace hf := fc_of_nm hf v11 ev11
      refine lv_iinc (v := v11) (lv' := [(2, .int v11), (0, .ref o), (1, .int x1), (3, .int x3), (4, .int x4)]) C.1 C.2.1 (dd_at td_darked 21 rfl) hl (k := 2) rfl (by rw [ev11]; rfl) (by decide) rfl (fun ls hl => ?_)
      refine lv_iload C.1 C.2.1 (dd_at td_darked 22 rfl) (lv_at hl 4 rfl) ?_
      refine lv_istore_n (lv' := [(3, .int x4), (2, .int v11), (0, .ref o), (1, .int x1), (4, .int x4)]) C.1 C.2.1 (dd_at td_darked 23 rfl) rfl hl (by decide) rfl (fun ls hl => ?_)
      exact w_darked_b44 C fu K21 hK21 x1 v11 x4 x4 st7 hf (lv_sub hl [2, 3, 1, 0, 4] rfl) hM
    · replace hf := fc_of_t hf c10
      refine lv_goto (tgt := 44) C.1 C.2.1 (dd_at td_darked 20 rfl) (by decide) ?_
      exact w_darked_b44 C fu K21 hK21 x1 x2 x3 x4 st7 hf (lv_sub hl [0, 1, 2, 3, 4] rfl) hM
theorem w_darked_b21 {p : Program} {l : Launch} {e : Env} {s : State} {m : MethodId} {args : Array Value} {below : List Frame} {meth : Method} {c : Code} {D : va_G} {o : Nat} {ad : Nat → Nat} {cs : ClassId × ClassId × ClassId} {r : Int32} {st' : mm_S} (C : mm_C p s m args meth c cX12_darked 5 (some .int) D cs) (fu : Nat) (n : Nat) : ∀ (x1 : Int32) (x2 : Int32) (x3 : Int32) (x4 : Int32) (st : mm_S), M_darked_b21 fu n x1 x2 x3 x4 st = some (r, st') → ∀ (H : Heap) (locs : List Loc) (ls : Array Slot), lv_has ls 5 [(0, .ref o), (1, .int x1), (2, .int x2), (3, .int x3), (4, .int x4)] → mm_H D o ad cs s.heap st H locs → W p l e (mm_R 5 126) s m args below meth c H locs 0 0 (MQ below (mm_Qi D o ad cs r st') args s 0 0 (mm_A o ad)) (F0 m 21 ls []) := by
  induction n with
  | zero => exact fun _ _ _ _ _ hf => fc_no hf
  | succ n ih =>
    intro x1 x2 x3 x4 st hf H locs ls hl hM
    exact w_darked_b21F C fu (fun x1 x2 x3 x4 st => M_darked_b21 fu n x1 x2 x3 x4 st) (fun x1 x2 x3 x4 st H locs ls hf hl hM => ih x1 x2 x3 x4 st hf H locs ls hl hM) x1 x2 x3 x4 st hf hl hM
theorem w_darked {p : Program} {l : Launch} {e : Env} {s : State} {m : MethodId} {args : Array Value} {below : List Frame} {meth : Method} {c : Code} {D : va_G} {o : Nat} {ad : Nat → Nat} {cs : ClassId × ClassId × ClassId} {r : Int32} {st' : mm_S} (C : mm_C p s m args meth c cX12_darked 5 (some .int) D cs) (fu : Nat) (x1 : Int32) (st : mm_S) (hf : M_darked fu x1 st = some (r, st')) {H : Heap} {locs : List Loc} {ls : Array Slot} (hl : lv_has ls 5 [(0, .ref o), (1, .int x1)]) (hM : mm_H D o ad cs s.heap st H locs) : W p l e (mm_R 5 126) s m args below meth c H locs 0 0 (MQ below (mm_Qi D o ad cs r st') args s 0 0 (mm_A o ad)) (F0 m 0 ls []) := by
  unfold M_darked at hf
  refine lv_aload_n C.1 C.2.1 (dd_at td_darked 0 rfl) rfl (lv_at hl 0 rfl) ?_
  refine lv_iload_n C.1 C.2.1 (dd_at td_darked 1 rfl) rfl (lv_at hl 1 rfl) ?_
  refine lv_iconst (v := (0 : Int32)) C.1 C.2.1 (dd_at td_darked 2 rfl) (by decide) ?_
  refine lv_iconst (v := (1 : Int32)) C.1 C.2.1 (dd_at td_darked 3 rfl) (by decide) ?_
  obtain ⟨r3, st1, hx2, hf⟩ := fc_of_bn hf
  refine mm_ci (As := [.int x1, .int (0 : Int32), .int (1 : Int32)]) (rest := []) (n := 3) C hM (c_in l D o ad cs fu x1 (0 : Int32) (1 : Int32) st) (List.mem_of_getElem? (i := 18) rfl) (dd_at td_darked 4 rfl) hx2 hl.1 hd_in ⟨Nat.le_of_ble_eq_true rfl, Nat.le_of_ble_eq_true rfl⟩ rfl rfl (Nat.le_of_ble_eq_true rfl) ⟨Nat.le_refl 0, Nat.le_refl 0⟩ (fun H locs hM => ?_)
  refine lv_if_ne (tgt := 12) C.1 C.2.1 (dd_at td_darked 5 rfl) (by decide) (fun c4 => ?_) (fun c4 => ?_)
  · replace hf := fc_of_f hf c4
    refine lv_iconst (v := (0 : Int32)) C.1 C.2.1 (dd_at td_darked 8 rfl) (by decide) ?_
    refine lv_istore_n (lv' := [(2, .int (0 : Int32)), (0, .ref o), (1, .int x1)]) C.1 C.2.1 (dd_at td_darked 9 rfl) rfl hl (by decide) rfl (fun ls hl => ?_)
    refine lv_bipush (v := (-5 : Int32)) C.1 C.2.1 (dd_at td_darked 10 rfl) (by decide) ?_
    refine lv_istore_n (lv' := [(3, .int (-5 : Int32)), (2, .int (0 : Int32)), (0, .ref o), (1, .int x1)]) C.1 C.2.1 (dd_at td_darked 11 rfl) rfl hl (by decide) rfl (fun ls hl => ?_)
    refine lv_bipush (v := (8 : Int32)) C.1 C.2.1 (dd_at td_darked 12 rfl) (by decide) ?_
    refine lv_istore (lv' := [(4, .int (8 : Int32)), (3, .int (-5 : Int32)), (2, .int (0 : Int32)), (0, .ref o), (1, .int x1)]) C.1 C.2.1 (dd_at td_darked 13 rfl) hl (by decide) rfl (fun ls hl => ?_)
    exact w_darked_b21 C fu fu x1 (0 : Int32) (-5 : Int32) (8 : Int32) st1 hf _ _ _ (lv_sub hl [3, 4, 2, 1, 0] rfl) hM
  · replace hf := fc_of_t hf c4
    refine lv_iconst (v := (-1 : Int32)) C.1 C.2.1 (dd_at td_darked 6 rfl) (by decide) ?_
    exact mm_ri C hM (dd_at td_darked 7 rfl) hf
theorem c_darked (l : Launch) (D : va_G) (o : Nat) (ad : Nat → Nat) (cs : ClassId × ClassId × ClassId) (fu : Nat) (x1 : Int32) (st : mm_S) : mm_Mi l D o ad cs yX12_darked cX12_darked 5 (some .int) 5 126 [.int x1] st (M_darked fu x1 st) := by
  intro r st' hf
  refine mm_enter (cc := cX12_darked) (nL := 5) (ret := some .int) (by decide) rfl (Nat.le_of_ble_eq_true rfl) ?_
  intro p e s m args below meth c ls C hl hM
  exact w_darked C fu x1 st hf hl hM

/-! book -/
def tb_book : List (Nat × Instr × Nat) := [(0, .iload_n 1, 1), (1, .iconst (-1), 1), (2, .if_icmp .ne 10, 3), (5, .aload_n 0, 1), (6, .iconst 0, 1), (7, .putfield 109, 3), (10, .iconst 0, 1), (11, .ireturn, 1), (12, .aload_n 0, 1), (13, .iload_n 1, 1), (14, .invokevirtual 215, 3), (17, .ifCond .ne 5, 3), (20, .iconst (-1), 1), (21, .ireturn, 1), (22, .aload_n 0, 1), (23, .iload_n 2, 1), (24, .iconst 0, 1), (25, .sipush 9999, 3), (28, .invokevirtual 207, 3), (31, .ifCond .ne 6, 3), (34, .bipush (-2), 2), (36, .ireturn, 1), (37, .aload_n 0, 1), (38, .getfield 109, 3), (41, .bipush 8, 2), (43, .if_icmp .ne 6, 3), (46, .bipush (-4), 2), (48, .ireturn, 1), (49, .aload_n 0, 1), (50, .getfield 121, 3), (53, .aload_n 0, 1), (54, .getfield 109, 3), (57, .iload_n 1, 1), (58, .iastore, 1), (59, .aload_n 0, 1), (60, .getfield 124, 3), (63, .aload_n 0, 1), (64, .getfield 109, 3), (67, .iload_n 2, 1), (68, .iastore, 1), (69, .aload_n 0, 1), (70, .dup, 1), (71, .getfield 109, 3), (74, .iconst 1, 1), (75, .iadd, 1), (76, .putfield 109, 3), (79, .aload_n 0, 1), (80, .getfield 109, 3), (83, .ireturn, 1)]
theorem td_book : tb_book.all (fun q => decide (decode cX12_book q.1 = .ok (q.2.1, q.2.2))) = true := by decide +kernel
theorem w_book {p : Program} {l : Launch} {e : Env} {s : State} {m : MethodId} {args : Array Value} {below : List Frame} {meth : Method} {c : Code} {D : va_G} {o : Nat} {ad : Nat → Nat} {cs : ClassId × ClassId × ClassId} {r : Int32} {st' : mm_S} (C : mm_C p s m args meth c cX12_book 3 (some .int) D cs) (fu : Nat) (x1 : Int32) (x2 : Int32) (st : mm_S) (hf : M_book fu x1 x2 st = some (r, st')) {H : Heap} {locs : List Loc} {ls : Array Slot} (hl : lv_has ls 3 [(0, .ref o), (1, .int x1), (2, .int x2)]) (hM : mm_H D o ad cs s.heap st H locs) : W p l e (mm_R 2 44) s m args below meth c H locs 0 0 (MQ below (mm_Qi D o ad cs r st') args s 0 0 (mm_A o ad)) (F0 m 0 ls []) := by
  unfold M_book at hf
  refine lv_iload_n C.1 C.2.1 (dd_at td_book 0 rfl) rfl (lv_at hl 1 rfl) ?_
  refine lv_iconst (v := (-1 : Int32)) C.1 C.2.1 (dd_at td_book 1 rfl) (by decide) ?_
  refine lv_icmp_ne (tgt := 12) C.1 C.2.1 (dd_at td_book 2 rfl) (by decide) (fun c1 => ?_) (fun c1 => ?_)
  · replace hf := fc_of_f hf c1
    refine lv_aload_n C.1 C.2.1 (dd_at td_book 8 rfl) rfl (lv_at hl 0 rfl) ?_
    refine lv_iload_n C.1 C.2.1 (dd_at td_book 9 rfl) rfl (lv_at hl 1 rfl) ?_
    obtain ⟨r4, st2, hx3, hf⟩ := fc_of_bn hf
    refine mm_ci (As := [.int x1]) (rest := []) (n := 1) C hM (c_isNeed l D o ad cs fu x1 st) (List.mem_of_getElem? (i := 22) rfl) (dd_at td_book 10 rfl) hx3 hl.1 hd_isNeed ⟨Nat.le_of_ble_eq_true rfl, Nat.le_of_ble_eq_true rfl⟩ rfl rfl (Nat.le_of_ble_eq_true rfl) ⟨Nat.le_refl 0, Nat.le_refl 0⟩ (fun H locs hM => ?_)
    refine lv_if_ne (tgt := 22) C.1 C.2.1 (dd_at td_book 11 rfl) (by decide) (fun c5 => ?_) (fun c5 => ?_)
    · replace hf := fc_of_f hf c5
      refine lv_aload_n C.1 C.2.1 (dd_at td_book 14 rfl) rfl (lv_at hl 0 rfl) ?_
      refine lv_iload_n C.1 C.2.1 (dd_at td_book 15 rfl) rfl (lv_at hl 2 rfl) ?_
      refine lv_iconst (v := (0 : Int32)) C.1 C.2.1 (dd_at td_book 16 rfl) (by decide) ?_
      refine lv_sipush (v := (9999 : Int32)) C.1 C.2.1 (dd_at td_book 17 rfl) (by decide) ?_
      obtain ⟨r8, st6, hx7, hf⟩ := fc_of_bn hf
      refine mm_ci (As := [.int x2, .int (0 : Int32), .int (9999 : Int32)]) (rest := []) (n := 3) C hM (c_in l D o ad cs fu x2 (0 : Int32) (9999 : Int32) st2) (List.mem_of_getElem? (i := 18) rfl) (dd_at td_book 18 rfl) hx7 hl.1 hd_in ⟨Nat.le_of_ble_eq_true rfl, Nat.le_of_ble_eq_true rfl⟩ rfl rfl (Nat.le_of_ble_eq_true rfl) ⟨Nat.le_refl 0, Nat.le_refl 0⟩ (fun H locs hM => ?_)
      refine lv_if_ne (tgt := 37) C.1 C.2.1 (dd_at td_book 19 rfl) (by decide) (fun c9 => ?_) (fun c9 => ?_)
      · replace hf := fc_of_f hf c9
        refine lv_aload_n C.1 C.2.1 (dd_at td_book 22 rfl) rfl (lv_at hl 0 rfl) ?_
        refine mm_gI C hM 32 (dd_at td_book 23 rfl) (by decide) (by decide) (by decide) ?_
        refine lv_bipush (v := (8 : Int32)) C.1 C.2.1 (dd_at td_book 24 rfl) (by decide) ?_
        refine lv_icmp_ne (tgt := 49) C.1 C.2.1 (dd_at td_book 25 rfl) (by decide) (fun c10 => ?_) (fun c10 => ?_)
        · replace hf := fc_of_f hf c10
          refine lv_aload_n C.1 C.2.1 (dd_at td_book 28 rfl) rfl (lv_at hl 0 rfl) ?_
          refine mm_gA C hM 36 (dd_at td_book 29 rfl) (by decide) (by decide) (by decide) ?_
          refine lv_aload_n C.1 C.2.1 (dd_at td_book 30 rfl) rfl (lv_at hl 0 rfl) ?_
          refine mm_gI C hM 32 (dd_at td_book 31 rfl) (by decide) (by decide) (by decide) ?_
          refine lv_iload_n C.1 C.2.1 (dd_at td_book 32 rfl) rfl (lv_at hl 1 rfl) ?_
          obtain ⟨g11, hf⟩ := fc_of_gd hf
          refine mm_iast C hM 36 (dd_at td_book 33 rfl) (by decide) (by decide) (fc_of_ix g11) (fun st12 H locs est12 hM => ?_)
          replace hf := fc_of_nm hf st12 est12
          refine lv_aload_n C.1 C.2.1 (dd_at td_book 34 rfl) rfl (lv_at hl 0 rfl) ?_
          refine mm_gA C hM 37 (dd_at td_book 35 rfl) (by decide) (by decide) (by decide) ?_
          refine lv_aload_n C.1 C.2.1 (dd_at td_book 36 rfl) rfl (lv_at hl 0 rfl) ?_
          refine mm_gI C hM 32 (dd_at td_book 37 rfl) (by decide) (by decide) (by decide) ?_
          refine lv_iload_n C.1 C.2.1 (dd_at td_book 38 rfl) rfl (lv_at hl 2 rfl) ?_
          obtain ⟨g13, hf⟩ := fc_of_gd hf
          refine mm_iast C hM 37 (dd_at td_book 39 rfl) (by decide) (by decide) (fc_of_ix g13) (fun st14 H locs est14 hM => ?_)
          replace hf := fc_of_nm hf st14 est14
          refine lv_aload_n C.1 C.2.1 (dd_at td_book 40 rfl) rfl (lv_at hl 0 rfl) ?_
          refine lv_dup C.1 C.2.1 (dd_at td_book 41 rfl) rfl ?_
          refine mm_gI C hM 32 (dd_at td_book 42 rfl) (by decide) (by decide) (by decide) ?_
          refine lv_iconst (v := (1 : Int32)) C.1 C.2.1 (dd_at td_book 43 rfl) (by decide) ?_
          refine lv_iadd C.1 C.2.1 (dd_at td_book 44 rfl) ?_
          refine mm_pI C hM 32 (dd_at td_book 45 rfl) (by decide) (by decide) (by decide) rfl rfl (fun st15 H locs est15 hM => ?_)
          replace hf := fc_of_nm hf st15 est15
          refine lv_aload_n C.1 C.2.1 (dd_at td_book 46 rfl) rfl (lv_at hl 0 rfl) ?_
          refine mm_gI C hM 32 (dd_at td_book 47 rfl) (by decide) (by decide) (by decide) ?_
          exact mm_ri C hM (dd_at td_book 48 rfl) hf
        · replace hf := fc_of_t hf c10
          refine lv_bipush (v := (-4 : Int32)) C.1 C.2.1 (dd_at td_book 26 rfl) (by decide) ?_
          exact mm_ri C hM (dd_at td_book 27 rfl) hf
      · replace hf := fc_of_t hf c9
        refine lv_bipush (v := (-2 : Int32)) C.1 C.2.1 (dd_at td_book 20 rfl) (by decide) ?_
        exact mm_ri C hM (dd_at td_book 21 rfl) hf
    · replace hf := fc_of_t hf c5
      refine lv_iconst (v := (-1 : Int32)) C.1 C.2.1 (dd_at td_book 12 rfl) (by decide) ?_
      exact mm_ri C hM (dd_at td_book 13 rfl) hf
  · replace hf := fc_of_t hf c1
    refine lv_aload_n C.1 C.2.1 (dd_at td_book 3 rfl) rfl (lv_at hl 0 rfl) ?_
    refine lv_iconst (v := (0 : Int32)) C.1 C.2.1 (dd_at td_book 4 rfl) (by decide) ?_
    refine mm_pI C hM 32 (dd_at td_book 5 rfl) (by decide) (by decide) (by decide) rfl rfl (fun st16 H locs est16 hM => ?_)
    replace hf := fc_of_nm hf st16 est16
    refine lv_iconst (v := (0 : Int32)) C.1 C.2.1 (dd_at td_book 6 rfl) (by decide) ?_
    exact mm_ri C hM (dd_at td_book 7 rfl) hf
theorem c_book (l : Launch) (D : va_G) (o : Nat) (ad : Nat → Nat) (cs : ClassId × ClassId × ClassId) (fu : Nat) (x1 : Int32) (x2 : Int32) (st : mm_S) : mm_Mi l D o ad cs yX12_book cX12_book 3 (some .int) 2 44 [.int x1, .int x2] st (M_book fu x1 x2 st) := by
  intro r st' hf
  refine mm_enter (cc := cX12_book) (nL := 3) (ret := some .int) (by decide) rfl (Nat.le_of_ble_eq_true rfl) ?_
  intro p e s m args below meth c ls C hl hM
  exact w_book C fu x1 x2 st hf hl hM

/-! looked -/
def tb_looked : List (Nat × Instr × Nat) := [(0, .iconst 0, 1), (1, .istore_n 1, 1), (2, .iload_n 1, 1), (3, .aload_n 0, 1), (4, .getfield 109, 3), (7, .if_icmp .ge 31, 3), (10, .aload_n 0, 1), (11, .getfield 29, 3), (14, .aload_n 0, 1), (15, .getfield 121, 3), (18, .iload_n 1, 1), (19, .iaload, 1), (20, .iaload, 1), (21, .aload_n 0, 1), (22, .getfield 124, 3), (25, .iload_n 1, 1), (26, .iaload, 1), (27, .if_icmp .eq 5, 3), (30, .iload_n 1, 1), (31, .ireturn, 1), (32, .iinc 1 1, 3), (35, .goto (-33), 3), (38, .bipush (-5), 2), (40, .ireturn, 1)]
theorem td_looked : tb_looked.all (fun q => decide (decode cX12_looked q.1 = .ok (q.2.1, q.2.2))) = true := by decide +kernel
theorem w_looked_b2F {p : Program} {l : Launch} {e : Env} {s : State} {m : MethodId} {args : Array Value} {below : List Frame} {meth : Method} {c : Code} {D : va_G} {o : Nat} {ad : Nat → Nat} {cs : ClassId × ClassId × ClassId} {r : Int32} {st' : mm_S} (C : mm_C p s m args meth c cX12_looked 2 (some .int) D cs) (fu : Nat) (K2 : Int32 → mm_S → Option (Int32 × mm_S)) (hK2 : ∀ (x1 : Int32) (st : mm_S) (H : Heap) (locs : List Loc) (ls : Array Slot), K2 x1 st = some (r, st') → lv_has ls 2 [(0, .ref o), (1, .int x1)] → mm_H D o ad cs s.heap st H locs → W p l e (mm_R 0 0) s m args below meth c H locs 0 0 (MQ below (mm_Qi D o ad cs r st') args s 0 0 (mm_A o ad)) (F0 m 2 ls [])) (x1 : Int32) (st : mm_S) (hf : M_looked_b2F fu K2 x1 st = some (r, st')) {H : Heap} {locs : List Loc} {ls : Array Slot} (hl : lv_has ls 2 [(0, .ref o), (1, .int x1)]) (hM : mm_H D o ad cs s.heap st H locs) : W p l e (mm_R 0 0) s m args below meth c H locs 0 0 (MQ below (mm_Qi D o ad cs r st') args s 0 0 (mm_A o ad)) (F0 m 2 ls []) := by
  unfold M_looked_b2F at hf
  refine lv_iload_n C.1 C.2.1 (dd_at td_looked 2 rfl) rfl (lv_at hl 1 rfl) ?_
  refine lv_aload_n C.1 C.2.1 (dd_at td_looked 3 rfl) rfl (lv_at hl 0 rfl) ?_
  refine mm_gI C hM 32 (dd_at td_looked 4 rfl) (by decide) (by decide) (by decide) ?_
  refine lv_icmp_ge (tgt := 38) C.1 C.2.1 (dd_at td_looked 5 rfl) (by decide) (fun c1 => ?_) (fun c1 => ?_)
  · replace hf := fc_of_t hf c1
    refine lv_bipush (v := (-5 : Int32)) C.1 C.2.1 (dd_at td_looked 22 rfl) (by decide) ?_
    exact mm_ri C hM (dd_at td_looked 23 rfl) hf
  · replace hf := fc_of_f hf c1
    refine lv_aload_n C.1 C.2.1 (dd_at td_looked 6 rfl) rfl (lv_at hl 0 rfl) ?_
    refine mm_gA C hM 6 (dd_at td_looked 7 rfl) (by decide) (by decide) (by decide) ?_
    refine lv_aload_n C.1 C.2.1 (dd_at td_looked 8 rfl) rfl (lv_at hl 0 rfl) ?_
    refine mm_gA C hM 36 (dd_at td_looked 9 rfl) (by decide) (by decide) (by decide) ?_
    refine lv_iload_n C.1 C.2.1 (dd_at td_looked 10 rfl) rfl (lv_at hl 1 rfl) ?_
    obtain ⟨g2, hf⟩ := fc_of_gd hf
    refine mm_iald C hM 36 (dd_at td_looked 11 rfl) (by decide) (by decide) (fc_of_ix g2) ?_
    obtain ⟨g3, hf⟩ := fc_of_gd hf
    refine mm_iald C hM 6 (dd_at td_looked 12 rfl) (by decide) (by decide) (fc_of_ix g3) ?_
    refine lv_aload_n C.1 C.2.1 (dd_at td_looked 13 rfl) rfl (lv_at hl 0 rfl) ?_
    refine mm_gA C hM 37 (dd_at td_looked 14 rfl) (by decide) (by decide) (by decide) ?_
    refine lv_iload_n C.1 C.2.1 (dd_at td_looked 15 rfl) rfl (lv_at hl 1 rfl) ?_
    obtain ⟨g4, hf⟩ := fc_of_gd hf
    refine mm_iald C hM 37 (dd_at td_looked 16 rfl) (by decide) (by decide) (fc_of_ix g4) ?_
    refine lv_icmp_eq (tgt := 32) C.1 C.2.1 (dd_at td_looked 17 rfl) (by decide) (fun c5 => ?_) (fun c5 => ?_)
    · replace hf := fc_of_t hf c5
      obtain ⟨v6, ev6⟩ : ∃ y : Int32, y = x1 + (1 : Int32) := ⟨_, rfl⟩
      replace hf := fc_of_nm hf v6 ev6
      refine lv_iinc (v := v6) (lv' := [(1, .int v6), (0, .ref o)]) C.1 C.2.1 (dd_at td_looked 20 rfl) hl (k := 1) rfl (by rw [ev6]; rfl) (by decide) rfl (fun ls hl => ?_)
      refine lv_goto (tgt := 2) C.1 C.2.1 (dd_at td_looked 21 rfl) (by decide) ?_
      exact hK2 v6 st _ _ _ hf (lv_sub hl [1, 0] rfl) hM
    · replace hf := fc_of_f hf c5
      refine lv_iload_n C.1 C.2.1 (dd_at td_looked 18 rfl) rfl (lv_at hl 1 rfl) ?_
      exact mm_ri C hM (dd_at td_looked 19 rfl) hf
theorem w_looked_b2 {p : Program} {l : Launch} {e : Env} {s : State} {m : MethodId} {args : Array Value} {below : List Frame} {meth : Method} {c : Code} {D : va_G} {o : Nat} {ad : Nat → Nat} {cs : ClassId × ClassId × ClassId} {r : Int32} {st' : mm_S} (C : mm_C p s m args meth c cX12_looked 2 (some .int) D cs) (fu : Nat) (n : Nat) : ∀ (x1 : Int32) (st : mm_S), M_looked_b2 fu n x1 st = some (r, st') → ∀ (H : Heap) (locs : List Loc) (ls : Array Slot), lv_has ls 2 [(0, .ref o), (1, .int x1)] → mm_H D o ad cs s.heap st H locs → W p l e (mm_R 0 0) s m args below meth c H locs 0 0 (MQ below (mm_Qi D o ad cs r st') args s 0 0 (mm_A o ad)) (F0 m 2 ls []) := by
  induction n with
  | zero => exact fun _ _ hf => fc_no hf
  | succ n ih =>
    intro x1 st hf H locs ls hl hM
    exact w_looked_b2F C fu (fun x1 st => M_looked_b2 fu n x1 st) (fun x1 st H locs ls hf hl hM => ih x1 st hf H locs ls hl hM) x1 st hf hl hM
theorem w_looked {p : Program} {l : Launch} {e : Env} {s : State} {m : MethodId} {args : Array Value} {below : List Frame} {meth : Method} {c : Code} {D : va_G} {o : Nat} {ad : Nat → Nat} {cs : ClassId × ClassId × ClassId} {r : Int32} {st' : mm_S} (C : mm_C p s m args meth c cX12_looked 2 (some .int) D cs) (fu : Nat) (st : mm_S) (hf : M_looked fu st = some (r, st')) {H : Heap} {locs : List Loc} {ls : Array Slot} (hl : lv_has ls 2 [(0, .ref o)]) (hM : mm_H D o ad cs s.heap st H locs) : W p l e (mm_R 0 0) s m args below meth c H locs 0 0 (MQ below (mm_Qi D o ad cs r st') args s 0 0 (mm_A o ad)) (F0 m 0 ls []) := by
  unfold M_looked at hf
  refine lv_iconst (v := (0 : Int32)) C.1 C.2.1 (dd_at td_looked 0 rfl) (by decide) ?_
  refine lv_istore_n (lv' := [(1, .int (0 : Int32)), (0, .ref o)]) C.1 C.2.1 (dd_at td_looked 1 rfl) rfl hl (by decide) rfl (fun ls hl => ?_)
  exact w_looked_b2 C fu fu (0 : Int32) st hf _ _ _ (lv_sub hl [1, 0] rfl) hM
theorem c_looked (l : Launch) (D : va_G) (o : Nat) (ad : Nat → Nat) (cs : ClassId × ClassId × ClassId) (fu : Nat) (st : mm_S) : mm_Mi l D o ad cs yX12_looked cX12_looked 2 (some .int) 0 0 [] st (M_looked fu st) := by
  intro r st' hf
  refine mm_enter (cc := cX12_looked) (nL := 2) (ret := some .int) (by decide) rfl (Nat.le_of_ble_eq_true rfl) ?_
  intro p e s m args below meth c ls C hl hM
  exact w_looked C fu st hf hl hM

/-! isTape -/
def tb_isTape : List (Nat × Instr × Nat) := [(0, .aload_n 0, 1), (1, .iload_n 1, 1), (2, .iconst 0, 1), (3, .iconst 5, 1), (4, .invokevirtual 207, 3), (7, .ireturn, 1)]
theorem td_isTape : tb_isTape.all (fun q => decide (decode cX12_isTape q.1 = .ok (q.2.1, q.2.2))) = true := by decide +kernel
theorem hd_isTape : yX12_isTape.cls = RX12 ∧ yX12_isTape.cls ≠ "java/lang/invoke/MethodHandle" ∧ yX12_isTape.cls ≠ "java/lang/invoke/VarHandle" ∧ (parseMethodDescriptor yX12_isTape.desc).map (fun d => d.parameters.length) = some 1 := by decide +kernel
theorem w_isTape {p : Program} {l : Launch} {e : Env} {s : State} {m : MethodId} {args : Array Value} {below : List Frame} {meth : Method} {c : Code} {D : va_G} {o : Nat} {ad : Nat → Nat} {cs : ClassId × ClassId × ClassId} {r : Int32} {st' : mm_S} (C : mm_C p s m args meth c cX12_isTape 2 (some .boolean) D cs) (fu : Nat) (x1 : Int32) (st : mm_S) (hf : M_isTape fu x1 st = some (r, st')) {H : Heap} {locs : List Loc} {ls : Array Slot} (hl : lv_has ls 2 [(0, .ref o), (1, .int x1)]) (hM : mm_H D o ad cs s.heap st H locs) : W p l e (mm_R 1 23) s m args below meth c H locs 0 0 (MQ below (mm_Qi D o ad cs r st') args s 0 0 (mm_A o ad)) (F0 m 0 ls []) := by
  unfold M_isTape at hf
  refine lv_aload_n C.1 C.2.1 (dd_at td_isTape 0 rfl) rfl (lv_at hl 0 rfl) ?_
  refine lv_iload_n C.1 C.2.1 (dd_at td_isTape 1 rfl) rfl (lv_at hl 1 rfl) ?_
  refine lv_iconst (v := (0 : Int32)) C.1 C.2.1 (dd_at td_isTape 2 rfl) (by decide) ?_
  refine lv_iconst (v := (5 : Int32)) C.1 C.2.1 (dd_at td_isTape 3 rfl) (by decide) ?_
  obtain ⟨r3, st1, hx2, hf⟩ := fc_of_bn hf
  refine mm_ci (As := [.int x1, .int (0 : Int32), .int (5 : Int32)]) (rest := []) (n := 3) C hM (c_in l D o ad cs fu x1 (0 : Int32) (5 : Int32) st) (List.mem_of_getElem? (i := 18) rfl) (dd_at td_isTape 4 rfl) hx2 hl.1 hd_in ⟨Nat.le_of_ble_eq_true rfl, Nat.le_of_ble_eq_true rfl⟩ rfl rfl (Nat.le_of_ble_eq_true rfl) ⟨Nat.le_refl 0, Nat.le_refl 0⟩ (fun H locs hM => ?_)
  obtain ⟨g4, hf⟩ := fc_of_gd hf
  exact mm_rz C hM (dd_at td_isTape 5 rfl) (fc_of_zb g4) hf
theorem c_isTape (l : Launch) (D : va_G) (o : Nat) (ad : Nat → Nat) (cs : ClassId × ClassId × ClassId) (fu : Nat) (x1 : Int32) (st : mm_S) : mm_Mi l D o ad cs yX12_isTape cX12_isTape 2 (some .boolean) 1 23 [.int x1] st (M_isTape fu x1 st) := by
  intro r st' hf
  refine mm_enter (cc := cX12_isTape) (nL := 2) (ret := some .boolean) (by decide) rfl (Nat.le_of_ble_eq_true rfl) ?_
  intro p e s m args below meth c ls C hl hM
  exact w_isTape C fu x1 st hf hl hM

/-! judge -/
def tb_judge : List (Nat × Instr × Nat) := [(0, .aload_n 0, 1), (1, .iload_n 1, 1), (2, .invokevirtual 343, 3), (5, .ifCond .ne 5, 3), (8, .iconst (-1), 1), (9, .ireturn, 1), (10, .aload_n 0, 1), (11, .getfield 191, 3), (14, .iload_n 1, 1), (15, .iaload, 1), (16, .ifCond .lt 16, 3), (19, .aload_n 0, 1), (20, .getfield 191, 3), (23, .iload_n 1, 1), (24, .iaload, 1), (25, .iconst 2, 1), (26, .if_icmp .eq 6, 3), (29, .bipush (-12), 2), (31, .ireturn, 1), (32, .iconst 0, 1), (33, .istore_n 3, 1), (34, .iload_n 3, 1), (35, .aload_n 0, 1), (36, .getfield 7, 3), (39, .if_icmp .ge 74, 3), (42, .aload_n 0, 1), (43, .getfield 191, 3), (46, .iload_n 1, 1), (47, .iaload, 1), (48, .ifCond .lt 21, 3), (51, .iload_n 2, 1), (52, .ifCond .lt 17, 3), (55, .iload_n 2, 1), (56, .aload_n 0, 1), (57, .getfield 194, 3), (60, .iload_n 1, 1), (61, .iaload, 1), (62, .iload_n 3, 1), (63, .isub, 1), (64, .iconst 1, 1), (65, .isub, 1), (66, .if_icmp .le 8, 3), (69, .bipush 100, 2), (71, .iload_n 3, 1), (72, .iadd, 1), (73, .ireturn, 1), (74, .aload_n 0, 1), (75, .getfield 197, 3), (78, .bipush 60, 2), (80, .iload_n 1, 1), (81, .imul, 1), (82, .iload_n 2, 1), (83, .iadd, 1), (84, .iload_n 3, 1), (85, .iadd, 1), (86, .laload, 1), (87, .aload_n 0, 1), (88, .iload_n 3, 1), (89, .aload_n 0, 1), (90, .getfield 19, 3), (93, .aload_n 0, 1), (94, .getfield 13, 3), (97, .invokevirtual 282, 3), (100, .i2l, 1), (101, .lcmp, 1), (102, .ifCond .eq 5, 3), (105, .iload_n 3, 1), (106, .ireturn, 1), (107, .iinc 3 1, 3), (110, .goto (-76), 3), (113, .bipush (-5), 2), (115, .ireturn, 1)]
theorem td_judge : tb_judge.all (fun q => decide (decode cX12_judge q.1 = .ok (q.2.1, q.2.2))) = true := by decide +kernel
theorem w_judge_b34F {p : Program} {l : Launch} {e : Env} {s : State} {m : MethodId} {args : Array Value} {below : List Frame} {meth : Method} {c : Code} {D : va_G} {o : Nat} {ad : Nat → Nat} {cs : ClassId × ClassId × ClassId} {r : Int32} {st' : mm_S} (C : mm_C p s m args meth c cX12_judge 4 (some .int) D cs) (fu : Nat) (K34 : Int32 → Int32 → Int32 → mm_S → Option (Int32 × mm_S)) (hK34 : ∀ (x1 : Int32) (x2 : Int32) (x3 : Int32) (st : mm_S) (H : Heap) (locs : List Loc) (ls : Array Slot), K34 x1 x2 x3 st = some (r, st') → lv_has ls 4 [(0, .ref o), (1, .int x1), (2, .int x2), (3, .int x3)] → mm_H D o ad cs s.heap st H locs → W p l e (mm_R 4 104) s m args below meth c H locs 0 0 (MQ below (mm_Qi D o ad cs r st') args s 0 0 (mm_A o ad)) (F0 m 34 ls [])) (x1 : Int32) (x2 : Int32) (x3 : Int32) (st : mm_S) (hf : M_judge_b34F fu K34 x1 x2 x3 st = some (r, st')) {H : Heap} {locs : List Loc} {ls : Array Slot} (hl : lv_has ls 4 [(0, .ref o), (1, .int x1), (2, .int x2), (3, .int x3)]) (hM : mm_H D o ad cs s.heap st H locs) : W p l e (mm_R 4 104) s m args below meth c H locs 0 0 (MQ below (mm_Qi D o ad cs r st') args s 0 0 (mm_A o ad)) (F0 m 34 ls []) := by
  unfold M_judge_b34F at hf
  refine lv_iload_n C.1 C.2.1 (dd_at td_judge 21 rfl) rfl (lv_at hl 3 rfl) ?_
  refine lv_aload_n C.1 C.2.1 (dd_at td_judge 22 rfl) rfl (lv_at hl 0 rfl) ?_
  refine mm_gI C hM 0 (dd_at td_judge 23 rfl) (by decide) (by decide) (by decide) ?_
  refine lv_icmp_ge (tgt := 113) C.1 C.2.1 (dd_at td_judge 24 rfl) (by decide) (fun c9 => ?_) (fun c9 => ?_)
  · replace hf := fc_of_t hf c9
    refine lv_bipush (v := (-5 : Int32)) C.1 C.2.1 (dd_at td_judge 70 rfl) (by decide) ?_
    exact mm_ri C hM (dd_at td_judge 71 rfl) hf
  · replace hf := fc_of_f hf c9
    refine lv_aload_n C.1 C.2.1 (dd_at td_judge 25 rfl) rfl (lv_at hl 0 rfl) ?_
    refine mm_gA C hM 59 (dd_at td_judge 26 rfl) (by decide) (by decide) (by decide) ?_
    refine lv_iload_n C.1 C.2.1 (dd_at td_judge 27 rfl) rfl (lv_at hl 1 rfl) ?_
    obtain ⟨g10, hf⟩ := fc_of_gd hf
    refine mm_iald C hM 59 (dd_at td_judge 28 rfl) (by decide) (by decide) (fc_of_ix g10) ?_
    refine lv_if_lt (tgt := 69) C.1 C.2.1 (dd_at td_judge 29 rfl) (by decide) (fun c11 => ?_) (fun c11 => ?_)
    · replace hf := fc_of_t hf c11
      refine lv_bipush (v := (100 : Int32)) C.1 C.2.1 (dd_at td_judge 42 rfl) (by decide) ?_
      refine lv_iload_n C.1 C.2.1 (dd_at td_judge 43 rfl) rfl (lv_at hl 3 rfl) ?_
      refine lv_iadd C.1 C.2.1 (dd_at td_judge 44 rfl) ?_
      exact mm_ri C hM (dd_at td_judge 45 rfl) hf
    · replace hf := fc_of_f hf c11
      refine lv_iload_n C.1 C.2.1 (dd_at td_judge 30 rfl) rfl (lv_at hl 2 rfl) ?_
      refine lv_if_lt (tgt := 69) C.1 C.2.1 (dd_at td_judge 31 rfl) (by decide) (fun c12 => ?_) (fun c12 => ?_)
      · replace hf := fc_of_t hf c12
        refine lv_bipush (v := (100 : Int32)) C.1 C.2.1 (dd_at td_judge 42 rfl) (by decide) ?_
        refine lv_iload_n C.1 C.2.1 (dd_at td_judge 43 rfl) rfl (lv_at hl 3 rfl) ?_
        refine lv_iadd C.1 C.2.1 (dd_at td_judge 44 rfl) ?_
        exact mm_ri C hM (dd_at td_judge 45 rfl) hf
      · replace hf := fc_of_f hf c12
        refine lv_iload_n C.1 C.2.1 (dd_at td_judge 32 rfl) rfl (lv_at hl 2 rfl) ?_
        refine lv_aload_n C.1 C.2.1 (dd_at td_judge 33 rfl) rfl (lv_at hl 0 rfl) ?_
        refine mm_gA C hM 60 (dd_at td_judge 34 rfl) (by decide) (by decide) (by decide) ?_
        refine lv_iload_n C.1 C.2.1 (dd_at td_judge 35 rfl) rfl (lv_at hl 1 rfl) ?_
        obtain ⟨g13, hf⟩ := fc_of_gd hf
        refine mm_iald C hM 60 (dd_at td_judge 36 rfl) (by decide) (by decide) (fc_of_ix g13) ?_
        refine lv_iload_n C.1 C.2.1 (dd_at td_judge 37 rfl) rfl (lv_at hl 3 rfl) ?_
        refine lv_isub C.1 C.2.1 (dd_at td_judge 38 rfl) ?_
        refine lv_iconst (v := (1 : Int32)) C.1 C.2.1 (dd_at td_judge 39 rfl) (by decide) ?_
        refine lv_isub C.1 C.2.1 (dd_at td_judge 40 rfl) ?_
        refine lv_icmp_le (tgt := 74) C.1 C.2.1 (dd_at td_judge 41 rfl) (by decide) (fun c14 => ?_) (fun c14 => ?_)
        · replace hf := fc_of_t hf c14
          refine lv_aload_n C.1 C.2.1 (dd_at td_judge 46 rfl) rfl (lv_at hl 0 rfl) ?_
          refine mm_gA C hM 61 (dd_at td_judge 47 rfl) (by decide) (by decide) (by decide) ?_
          refine lv_bipush (v := (60 : Int32)) C.1 C.2.1 (dd_at td_judge 48 rfl) (by decide) ?_
          refine lv_iload_n C.1 C.2.1 (dd_at td_judge 49 rfl) rfl (lv_at hl 1 rfl) ?_
          refine lv_imul C.1 C.2.1 (dd_at td_judge 50 rfl) ?_
          refine lv_iload_n C.1 C.2.1 (dd_at td_judge 51 rfl) rfl (lv_at hl 2 rfl) ?_
          refine lv_iadd C.1 C.2.1 (dd_at td_judge 52 rfl) ?_
          refine lv_iload_n C.1 C.2.1 (dd_at td_judge 53 rfl) rfl (lv_at hl 3 rfl) ?_
          refine lv_iadd C.1 C.2.1 (dd_at td_judge 54 rfl) ?_
          obtain ⟨g15, hf⟩ := fc_of_gd hf
          refine mm_lald C hM 61 (dd_at td_judge 55 rfl) (by decide) (by decide) (fc_of_ix g15) ?_
          refine lv_aload_n C.1 C.2.1 (dd_at td_judge 56 rfl) rfl (lv_at hl 0 rfl) ?_
          refine lv_iload_n C.1 C.2.1 (dd_at td_judge 57 rfl) rfl (lv_at hl 3 rfl) ?_
          refine lv_aload_n C.1 C.2.1 (dd_at td_judge 58 rfl) rfl (lv_at hl 0 rfl) ?_
          refine mm_gI C hM 3 (dd_at td_judge 59 rfl) (by decide) (by decide) (by decide) ?_
          refine lv_aload_n C.1 C.2.1 (dd_at td_judge 60 rfl) rfl (lv_at hl 0 rfl) ?_
          refine mm_gI C hM 1 (dd_at td_judge 61 rfl) (by decide) (by decide) (by decide) ?_
          obtain ⟨r18, st16, hx17, hf⟩ := fc_of_bn hf
          refine mm_ci (As := [.int x3, .int (mm_I st 3), .int (mm_I st 1)]) (rest := [.long (mm_L st 61 ((((60 : Int32) * x1) + x2) + x3).toNatClampNeg)]) (n := 3) C hM (c_worthOf l D o ad cs fu x3 (mm_I st 3) (mm_I st 1) st) (List.mem_of_getElem? (i := 48) rfl) (dd_at td_judge 62 rfl) hx17 hl.1 hd_worthOf ⟨Nat.le_of_ble_eq_true rfl, Nat.le_of_ble_eq_true rfl⟩ rfl rfl (Nat.le_of_ble_eq_true rfl) ⟨Nat.le_refl 0, Nat.le_refl 0⟩ (fun H locs hM => ?_)
          refine lv_i2l C.1 C.2.1 (dd_at td_judge 63 rfl) rfl ?_
          refine W.lcmp C.1 C.2.1 (dd_at td_judge 64 rfl) ?_
          refine lv_if_eq (tgt := 107) C.1 C.2.1 (dd_at td_judge 65 rfl) (by decide) (fun c19 => ?_) (fun c19 => ?_)
          · replace hf := fc_of_t hf c19
            obtain ⟨v20, ev20⟩ : ∃ y : Int32, y = x3 + (1 : Int32) := ⟨_, rfl⟩
            replace hf := fc_of_nm hf v20 ev20
            refine lv_iinc (v := v20) (lv' := [(3, .int v20), (0, .ref o), (1, .int x1), (2, .int x2)]) C.1 C.2.1 (dd_at td_judge 68 rfl) hl (k := 3) rfl (by rw [ev20]; rfl) (by decide) rfl (fun ls hl => ?_)
            refine lv_goto (tgt := 34) C.1 C.2.1 (dd_at td_judge 69 rfl) (by decide) ?_
            exact hK34 x1 x2 v20 st16 _ _ _ hf (lv_sub hl [1, 2, 3, 0] rfl) hM
          · replace hf := fc_of_f hf c19
            refine lv_iload_n C.1 C.2.1 (dd_at td_judge 66 rfl) rfl (lv_at hl 3 rfl) ?_
            exact mm_ri C hM (dd_at td_judge 67 rfl) hf
        · replace hf := fc_of_f hf c14
          refine lv_bipush (v := (100 : Int32)) C.1 C.2.1 (dd_at td_judge 42 rfl) (by decide) ?_
          refine lv_iload_n C.1 C.2.1 (dd_at td_judge 43 rfl) rfl (lv_at hl 3 rfl) ?_
          refine lv_iadd C.1 C.2.1 (dd_at td_judge 44 rfl) ?_
          exact mm_ri C hM (dd_at td_judge 45 rfl) hf
theorem w_judge_b34 {p : Program} {l : Launch} {e : Env} {s : State} {m : MethodId} {args : Array Value} {below : List Frame} {meth : Method} {c : Code} {D : va_G} {o : Nat} {ad : Nat → Nat} {cs : ClassId × ClassId × ClassId} {r : Int32} {st' : mm_S} (C : mm_C p s m args meth c cX12_judge 4 (some .int) D cs) (fu : Nat) (n : Nat) : ∀ (x1 : Int32) (x2 : Int32) (x3 : Int32) (st : mm_S), M_judge_b34 fu n x1 x2 x3 st = some (r, st') → ∀ (H : Heap) (locs : List Loc) (ls : Array Slot), lv_has ls 4 [(0, .ref o), (1, .int x1), (2, .int x2), (3, .int x3)] → mm_H D o ad cs s.heap st H locs → W p l e (mm_R 4 104) s m args below meth c H locs 0 0 (MQ below (mm_Qi D o ad cs r st') args s 0 0 (mm_A o ad)) (F0 m 34 ls []) := by
  induction n with
  | zero => exact fun _ _ _ _ hf => fc_no hf
  | succ n ih =>
    intro x1 x2 x3 st hf H locs ls hl hM
    exact w_judge_b34F C fu (fun x1 x2 x3 st => M_judge_b34 fu n x1 x2 x3 st) (fun x1 x2 x3 st H locs ls hf hl hM => ih x1 x2 x3 st hf H locs ls hl hM) x1 x2 x3 st hf hl hM
theorem w_judge_b32 {p : Program} {l : Launch} {e : Env} {s : State} {m : MethodId} {args : Array Value} {below : List Frame} {meth : Method} {c : Code} {D : va_G} {o : Nat} {ad : Nat → Nat} {cs : ClassId × ClassId × ClassId} {r : Int32} {st' : mm_S} (C : mm_C p s m args meth c cX12_judge 4 (some .int) D cs) (fu : Nat) (x1 : Int32) (x2 : Int32) (st : mm_S) (hf : M_judge_b32 fu x1 x2 st = some (r, st')) {H : Heap} {locs : List Loc} {ls : Array Slot} (hl : lv_has ls 4 [(0, .ref o), (1, .int x1), (2, .int x2)]) (hM : mm_H D o ad cs s.heap st H locs) : W p l e (mm_R 4 104) s m args below meth c H locs 0 0 (MQ below (mm_Qi D o ad cs r st') args s 0 0 (mm_A o ad)) (F0 m 32 ls []) := by
  unfold M_judge_b32 at hf
  refine lv_iconst (v := (0 : Int32)) C.1 C.2.1 (dd_at td_judge 19 rfl) (by decide) ?_
  refine lv_istore_n (lv' := [(3, .int (0 : Int32)), (0, .ref o), (1, .int x1), (2, .int x2)]) C.1 C.2.1 (dd_at td_judge 20 rfl) rfl hl (by decide) rfl (fun ls hl => ?_)
  exact w_judge_b34 C fu fu x1 x2 (0 : Int32) st hf _ _ _ (lv_sub hl [1, 2, 3, 0] rfl) hM
theorem w_judge {p : Program} {l : Launch} {e : Env} {s : State} {m : MethodId} {args : Array Value} {below : List Frame} {meth : Method} {c : Code} {D : va_G} {o : Nat} {ad : Nat → Nat} {cs : ClassId × ClassId × ClassId} {r : Int32} {st' : mm_S} (C : mm_C p s m args meth c cX12_judge 4 (some .int) D cs) (fu : Nat) (x1 : Int32) (x2 : Int32) (st : mm_S) (hf : M_judge fu x1 x2 st = some (r, st')) {H : Heap} {locs : List Loc} {ls : Array Slot} (hl : lv_has ls 4 [(0, .ref o), (1, .int x1), (2, .int x2)]) (hM : mm_H D o ad cs s.heap st H locs) : W p l e (mm_R 4 104) s m args below meth c H locs 0 0 (MQ below (mm_Qi D o ad cs r st') args s 0 0 (mm_A o ad)) (F0 m 0 ls []) := by
  unfold M_judge at hf
  refine lv_aload_n C.1 C.2.1 (dd_at td_judge 0 rfl) rfl (lv_at hl 0 rfl) ?_
  refine lv_iload_n C.1 C.2.1 (dd_at td_judge 1 rfl) rfl (lv_at hl 1 rfl) ?_
  obtain ⟨r3, st1, hx2, hf⟩ := fc_of_bn hf
  refine mm_ci (As := [.int x1]) (rest := []) (n := 1) C hM (c_isTape l D o ad cs fu x1 st) (List.mem_of_getElem? (i := 24) rfl) (dd_at td_judge 2 rfl) hx2 hl.1 hd_isTape ⟨Nat.le_of_ble_eq_true rfl, Nat.le_of_ble_eq_true rfl⟩ rfl rfl (Nat.le_of_ble_eq_true rfl) ⟨Nat.le_refl 0, Nat.le_refl 0⟩ (fun H locs hM => ?_)
  refine lv_if_ne (tgt := 10) C.1 C.2.1 (dd_at td_judge 3 rfl) (by decide) (fun c4 => ?_) (fun c4 => ?_)
  · replace hf := fc_of_f hf c4
    refine lv_aload_n C.1 C.2.1 (dd_at td_judge 6 rfl) rfl (lv_at hl 0 rfl) ?_
    refine mm_gA C hM 59 (dd_at td_judge 7 rfl) (by decide) (by decide) (by decide) ?_
    refine lv_iload_n C.1 C.2.1 (dd_at td_judge 8 rfl) rfl (lv_at hl 1 rfl) ?_
    obtain ⟨g5, hf⟩ := fc_of_gd hf
    refine mm_iald C hM 59 (dd_at td_judge 9 rfl) (by decide) (by decide) (fc_of_ix g5) ?_
    refine lv_if_lt (tgt := 32) C.1 C.2.1 (dd_at td_judge 10 rfl) (by decide) (fun c6 => ?_) (fun c6 => ?_)
    · replace hf := fc_of_t hf c6
      exact w_judge_b32 C fu x1 x2 st1 hf (lv_sub hl [0, 1, 2] rfl) hM
    · replace hf := fc_of_f hf c6
      refine lv_aload_n C.1 C.2.1 (dd_at td_judge 11 rfl) rfl (lv_at hl 0 rfl) ?_
      refine mm_gA C hM 59 (dd_at td_judge 12 rfl) (by decide) (by decide) (by decide) ?_
      refine lv_iload_n C.1 C.2.1 (dd_at td_judge 13 rfl) rfl (lv_at hl 1 rfl) ?_
      obtain ⟨g7, hf⟩ := fc_of_gd hf
      refine mm_iald C hM 59 (dd_at td_judge 14 rfl) (by decide) (by decide) (fc_of_ix g7) ?_
      refine lv_iconst (v := (2 : Int32)) C.1 C.2.1 (dd_at td_judge 15 rfl) (by decide) ?_
      refine lv_icmp_eq (tgt := 32) C.1 C.2.1 (dd_at td_judge 16 rfl) (by decide) (fun c8 => ?_) (fun c8 => ?_)
      · replace hf := fc_of_t hf c8
        exact w_judge_b32 C fu x1 x2 st1 hf (lv_sub hl [0, 1, 2] rfl) hM
      · replace hf := fc_of_f hf c8
        refine lv_bipush (v := (-12 : Int32)) C.1 C.2.1 (dd_at td_judge 17 rfl) (by decide) ?_
        exact mm_ri C hM (dd_at td_judge 18 rfl) hf
  · replace hf := fc_of_t hf c4
    refine lv_iconst (v := (-1 : Int32)) C.1 C.2.1 (dd_at td_judge 4 rfl) (by decide) ?_
    exact mm_ri C hM (dd_at td_judge 5 rfl) hf
theorem c_judge (l : Launch) (D : va_G) (o : Nat) (ad : Nat → Nat) (cs : ClassId × ClassId × ClassId) (fu : Nat) (x1 : Int32) (x2 : Int32) (st : mm_S) : mm_Mi l D o ad cs yX12_judge cX12_judge 4 (some .int) 4 104 [.int x1, .int x2] st (M_judge fu x1 x2 st) := by
  intro r st' hf
  refine mm_enter (cc := cX12_judge) (nL := 4) (ret := some .int) (by decide) rfl (Nat.le_of_ble_eq_true rfl) ?_
  intro p e s m args below meth c ls C hl hM
  exact w_judge C fu x1 x2 st hf hl hM

/-! image -/
def tb_image : List (Nat × Instr × Nat) := [(0, .aload_n 0, 1), (1, .iconst 1, 1), (2, .putfield 127, 3), (5, .aload_n 0, 1), (6, .aload_n 0, 1), (7, .getfield 38, 3), (10, .putfield 131, 3), (13, .aload_n 0, 1), (14, .aload_n 0, 1), (15, .getfield 7, 3), (18, .putfield 134, 3), (21, .aload_n 0, 1), (22, .aload_n 0, 1), (23, .getfield 13, 3), (26, .putfield 137, 3), (29, .aload_n 0, 1), (30, .aload_n 0, 1), (31, .getfield 16, 3), (34, .putfield 140, 3), (37, .aload_n 0, 1), (38, .aload_n 0, 1), (39, .getfield 19, 3), (42, .putfield 143, 3), (45, .aload_n 0, 1), (46, .aload_n 0, 1), (47, .getfield 100, 3), (50, .putfield 146, 3), (53, .aload_n 0, 1), (54, .aload_n 0, 1), (55, .getfield 106, 3), (58, .putfield 149, 3), (61, .aload_n 0, 1), (62, .aload_n 0, 1), (63, .getfield 109, 3), (66, .putfield 152, 3), (69, .iconst 0, 1), (70, .istore_n 1, 1), (71, .iload_n 1, 1), (72, .bipush 6, 2), (74, .if_icmp .ge 45, 3), (77, .aload_n 0, 1), (78, .getfield 155, 3), (81, .iload_n 1, 1), (82, .aload_n 0, 1), (83, .getfield 22, 3), (86, .iload_n 1, 1), (87, .iaload, 1), (88, .iastore, 1), (89, .aload_n 0, 1), (90, .getfield 158, 3), (93, .iload_n 1, 1), (94, .aload_n 0, 1), (95, .getfield 26, 3), (98, .iload_n 1, 1), (99, .iaload, 1), (100, .iastore, 1), (101, .aload_n 0, 1), (102, .getfield 161, 3), (105, .iload_n 1, 1), (106, .aload_n 0, 1), (107, .getfield 29, 3), (110, .iload_n 1, 1), (111, .iaload, 1), (112, .iastore, 1), (113, .iinc 1 1, 3), (116, .goto (-45), 3), (119, .iconst 0, 1), (120, .istore_n 1, 1), (121, .iload_n 1, 1), (122, .bipush 24, 2), (124, .if_icmp .ge 21, 3), (127, .aload_n 0, 1), (128, .getfield 164, 3), (131, .iload_n 1, 1), (132, .aload_n 0, 1), (133, .getfield 32, 3), (136, .iload_n 1, 1), (137, .iaload, 1), (138, .iastore, 1), (139, .iinc 1 1, 3), (142, .goto (-21), 3), (145, .iconst 0, 1), (146, .istore_n 1, 1), (147, .iload_n 1, 1), (148, .iconst 5, 1), (149, .if_icmp .ge 45, 3), (152, .aload_n 0, 1), (153, .getfield 170, 3), (156, .iload_n 1, 1), (157, .aload_n 0, 1), (158, .getfield 112, 3), (161, .iload_n 1, 1), (162, .iaload, 1), (163, .iastore, 1), (164, .aload_n 0, 1), (165, .getfield 173, 3), (168, .iload_n 1, 1), (169, .aload_n 0, 1), (170, .getfield 115, 3), (173, .iload_n 1, 1), (174, .iaload, 1), (175, .iastore, 1), (176, .aload_n 0, 1), (177, .getfield 176, 3), (180, .iload_n 1, 1), (181, .aload_n 0, 1), (182, .getfield 118, 3), (185, .iload_n 1, 1), (186, .iaload, 1), (187, .iastore, 1), (188, .iinc 1 1, 3), (191, .goto (-44), 3), (194, .iconst 0, 1), (195, .istore_n 1, 1), (196, .iload_n 1, 1), (197, .bipush 8, 2), (199, .if_icmp .ge 45, 3), (202, .aload_n 0, 1), (203, .getfield 167, 3), (206, .iload_n 1, 1), (207, .aload_n 0, 1), (208, .getfield 103, 3), (211, .iload_n 1, 1), (212, .iaload, 1), (213, .iastore, 1), (214, .aload_n 0, 1), (215, .getfield 179, 3), (218, .iload_n 1, 1), (219, .aload_n 0, 1), (220, .getfield 121, 3), (223, .iload_n 1, 1), (224, .iaload, 1), (225, .iastore, 1), (226, .aload_n 0, 1), (227, .getfield 182, 3), (230, .iload_n 1, 1), (231, .aload_n 0, 1), (232, .getfield 124, 3), (235, .iload_n 1, 1), (236, .iaload, 1), (237, .iastore, 1), (238, .iinc 1 1, 3), (241, .goto (-45), 3), (244, .aload_n 0, 1), (245, .getfield 7, 3), (248, .ireturn, 1)]
theorem td_image : tb_image.all (fun q => decide (decode cX12_image q.1 = .ok (q.2.1, q.2.2))) = true := by decide +kernel
theorem w_image_b196F {p : Program} {l : Launch} {e : Env} {s : State} {m : MethodId} {args : Array Value} {below : List Frame} {meth : Method} {c : Code} {D : va_G} {o : Nat} {ad : Nat → Nat} {cs : ClassId × ClassId × ClassId} {r : Int32} {st' : mm_S} (C : mm_C p s m args meth c cX12_image 2 (some .int) D cs) (fu : Nat) (K196 : Int32 → mm_S → Option (Int32 × mm_S)) (hK196 : ∀ (x1 : Int32) (st : mm_S) (H : Heap) (locs : List Loc) (ls : Array Slot), K196 x1 st = some (r, st') → lv_has ls 2 [(0, .ref o), (1, .int x1)] → mm_H D o ad cs s.heap st H locs → W p l e (mm_R 0 0) s m args below meth c H locs 0 0 (MQ below (mm_Qi D o ad cs r st') args s 0 0 (mm_A o ad)) (F0 m 196 ls [])) (x1 : Int32) (st : mm_S) (hf : M_image_b196F fu K196 x1 st = some (r, st')) {H : Heap} {locs : List Loc} {ls : Array Slot} (hl : lv_has ls 2 [(0, .ref o), (1, .int x1)]) (hM : mm_H D o ad cs s.heap st H locs) : W p l e (mm_R 0 0) s m args below meth c H locs 0 0 (MQ below (mm_Qi D o ad cs r st') args s 0 0 (mm_A o ad)) (F0 m 196 ls []) := by
  unfold M_image_b196F at hf
  refine lv_iload_n C.1 C.2.1 (dd_at td_image 114 rfl) rfl (lv_at hl 1 rfl) ?_
  refine lv_bipush (v := (8 : Int32)) C.1 C.2.1 (dd_at td_image 115 rfl) (by decide) ?_
  refine lv_icmp_ge (tgt := 244) C.1 C.2.1 (dd_at td_image 116 rfl) (by decide) (fun c37 => ?_) (fun c37 => ?_)
  · replace hf := fc_of_t hf c37
    refine lv_aload_n C.1 C.2.1 (dd_at td_image 143 rfl) rfl (lv_at hl 0 rfl) ?_
    refine mm_gI C hM 0 (dd_at td_image 144 rfl) (by decide) (by decide) (by decide) ?_
    exact mm_ri C hM (dd_at td_image 145 rfl) hf
  · replace hf := fc_of_f hf c37
    refine lv_aload_n C.1 C.2.1 (dd_at td_image 117 rfl) rfl (lv_at hl 0 rfl) ?_
    refine mm_gA C hM 51 (dd_at td_image 118 rfl) (by decide) (by decide) (by decide) ?_
    refine lv_iload_n C.1 C.2.1 (dd_at td_image 119 rfl) rfl (lv_at hl 1 rfl) ?_
    refine lv_aload_n C.1 C.2.1 (dd_at td_image 120 rfl) rfl (lv_at hl 0 rfl) ?_
    refine mm_gA C hM 30 (dd_at td_image 121 rfl) (by decide) (by decide) (by decide) ?_
    refine lv_iload_n C.1 C.2.1 (dd_at td_image 122 rfl) rfl (lv_at hl 1 rfl) ?_
    obtain ⟨g38, hf⟩ := fc_of_gd hf
    refine mm_iald C hM 30 (dd_at td_image 123 rfl) (by decide) (by decide) (fc_of_ix g38) ?_
    obtain ⟨g39, hf⟩ := fc_of_gd hf
    refine mm_iast C hM 51 (dd_at td_image 124 rfl) (by decide) (by decide) (fc_of_ix g39) (fun st40 H locs est40 hM => ?_)
    replace hf := fc_of_nm hf st40 est40
    refine lv_aload_n C.1 C.2.1 (dd_at td_image 125 rfl) rfl (lv_at hl 0 rfl) ?_
    refine mm_gA C hM 55 (dd_at td_image 126 rfl) (by decide) (by decide) (by decide) ?_
    refine lv_iload_n C.1 C.2.1 (dd_at td_image 127 rfl) rfl (lv_at hl 1 rfl) ?_
    refine lv_aload_n C.1 C.2.1 (dd_at td_image 128 rfl) rfl (lv_at hl 0 rfl) ?_
    refine mm_gA C hM 36 (dd_at td_image 129 rfl) (by decide) (by decide) (by decide) ?_
    refine lv_iload_n C.1 C.2.1 (dd_at td_image 130 rfl) rfl (lv_at hl 1 rfl) ?_
    obtain ⟨g41, hf⟩ := fc_of_gd hf
    refine mm_iald C hM 36 (dd_at td_image 131 rfl) (by decide) (by decide) (fc_of_ix g41) ?_
    obtain ⟨g42, hf⟩ := fc_of_gd hf
    refine mm_iast C hM 55 (dd_at td_image 132 rfl) (by decide) (by decide) (fc_of_ix g42) (fun st43 H locs est43 hM => ?_)
    replace hf := fc_of_nm hf st43 est43
    refine lv_aload_n C.1 C.2.1 (dd_at td_image 133 rfl) rfl (lv_at hl 0 rfl) ?_
    refine mm_gA C hM 56 (dd_at td_image 134 rfl) (by decide) (by decide) (by decide) ?_
    refine lv_iload_n C.1 C.2.1 (dd_at td_image 135 rfl) rfl (lv_at hl 1 rfl) ?_
    refine lv_aload_n C.1 C.2.1 (dd_at td_image 136 rfl) rfl (lv_at hl 0 rfl) ?_
    refine mm_gA C hM 37 (dd_at td_image 137 rfl) (by decide) (by decide) (by decide) ?_
    refine lv_iload_n C.1 C.2.1 (dd_at td_image 138 rfl) rfl (lv_at hl 1 rfl) ?_
    obtain ⟨g44, hf⟩ := fc_of_gd hf
    refine mm_iald C hM 37 (dd_at td_image 139 rfl) (by decide) (by decide) (fc_of_ix g44) ?_
    obtain ⟨g45, hf⟩ := fc_of_gd hf
    refine mm_iast C hM 56 (dd_at td_image 140 rfl) (by decide) (by decide) (fc_of_ix g45) (fun st46 H locs est46 hM => ?_)
    replace hf := fc_of_nm hf st46 est46
    obtain ⟨v47, ev47⟩ : ∃ y : Int32, y = x1 + (1 : Int32) := ⟨_, rfl⟩
    replace hf := fc_of_nm hf v47 ev47
    refine lv_iinc (v := v47) (lv' := [(1, .int v47), (0, .ref o)]) C.1 C.2.1 (dd_at td_image 141 rfl) hl (k := 1) rfl (by rw [ev47]; rfl) (by decide) rfl (fun ls hl => ?_)
    refine lv_goto (tgt := 196) C.1 C.2.1 (dd_at td_image 142 rfl) (by decide) ?_
    exact hK196 v47 st46 _ _ _ hf (lv_sub hl [1, 0] rfl) hM
theorem w_image_b196 {p : Program} {l : Launch} {e : Env} {s : State} {m : MethodId} {args : Array Value} {below : List Frame} {meth : Method} {c : Code} {D : va_G} {o : Nat} {ad : Nat → Nat} {cs : ClassId × ClassId × ClassId} {r : Int32} {st' : mm_S} (C : mm_C p s m args meth c cX12_image 2 (some .int) D cs) (fu : Nat) (n : Nat) : ∀ (x1 : Int32) (st : mm_S), M_image_b196 fu n x1 st = some (r, st') → ∀ (H : Heap) (locs : List Loc) (ls : Array Slot), lv_has ls 2 [(0, .ref o), (1, .int x1)] → mm_H D o ad cs s.heap st H locs → W p l e (mm_R 0 0) s m args below meth c H locs 0 0 (MQ below (mm_Qi D o ad cs r st') args s 0 0 (mm_A o ad)) (F0 m 196 ls []) := by
  induction n with
  | zero => exact fun _ _ hf => fc_no hf
  | succ n ih =>
    intro x1 st hf H locs ls hl hM
    exact w_image_b196F C fu (fun x1 st => M_image_b196 fu n x1 st) (fun x1 st H locs ls hf hl hM => ih x1 st hf H locs ls hl hM) x1 st hf hl hM
theorem w_image_b147F {p : Program} {l : Launch} {e : Env} {s : State} {m : MethodId} {args : Array Value} {below : List Frame} {meth : Method} {c : Code} {D : va_G} {o : Nat} {ad : Nat → Nat} {cs : ClassId × ClassId × ClassId} {r : Int32} {st' : mm_S} (C : mm_C p s m args meth c cX12_image 2 (some .int) D cs) (fu : Nat) (K147 : Int32 → mm_S → Option (Int32 × mm_S)) (hK147 : ∀ (x1 : Int32) (st : mm_S) (H : Heap) (locs : List Loc) (ls : Array Slot), K147 x1 st = some (r, st') → lv_has ls 2 [(0, .ref o), (1, .int x1)] → mm_H D o ad cs s.heap st H locs → W p l e (mm_R 0 0) s m args below meth c H locs 0 0 (MQ below (mm_Qi D o ad cs r st') args s 0 0 (mm_A o ad)) (F0 m 147 ls [])) (x1 : Int32) (st : mm_S) (hf : M_image_b147F fu K147 x1 st = some (r, st')) {H : Heap} {locs : List Loc} {ls : Array Slot} (hl : lv_has ls 2 [(0, .ref o), (1, .int x1)]) (hM : mm_H D o ad cs s.heap st H locs) : W p l e (mm_R 0 0) s m args below meth c H locs 0 0 (MQ below (mm_Qi D o ad cs r st') args s 0 0 (mm_A o ad)) (F0 m 147 ls []) := by
  unfold M_image_b147F at hf
  refine lv_iload_n C.1 C.2.1 (dd_at td_image 83 rfl) rfl (lv_at hl 1 rfl) ?_
  refine lv_iconst (v := (5 : Int32)) C.1 C.2.1 (dd_at td_image 84 rfl) (by decide) ?_
  refine lv_icmp_ge (tgt := 194) C.1 C.2.1 (dd_at td_image 85 rfl) (by decide) (fun c26 => ?_) (fun c26 => ?_)
  · replace hf := fc_of_t hf c26
    refine lv_iconst (v := (0 : Int32)) C.1 C.2.1 (dd_at td_image 112 rfl) (by decide) ?_
    refine lv_istore_n (lv' := [(1, .int (0 : Int32)), (0, .ref o)]) C.1 C.2.1 (dd_at td_image 113 rfl) rfl hl (by decide) rfl (fun ls hl => ?_)
    exact w_image_b196 C fu fu (0 : Int32) st hf _ _ _ (lv_sub hl [1, 0] rfl) hM
  · replace hf := fc_of_f hf c26
    refine lv_aload_n C.1 C.2.1 (dd_at td_image 86 rfl) rfl (lv_at hl 0 rfl) ?_
    refine mm_gA C hM 52 (dd_at td_image 87 rfl) (by decide) (by decide) (by decide) ?_
    refine lv_iload_n C.1 C.2.1 (dd_at td_image 88 rfl) rfl (lv_at hl 1 rfl) ?_
    refine lv_aload_n C.1 C.2.1 (dd_at td_image 89 rfl) rfl (lv_at hl 0 rfl) ?_
    refine mm_gA C hM 33 (dd_at td_image 90 rfl) (by decide) (by decide) (by decide) ?_
    refine lv_iload_n C.1 C.2.1 (dd_at td_image 91 rfl) rfl (lv_at hl 1 rfl) ?_
    obtain ⟨g27, hf⟩ := fc_of_gd hf
    refine mm_iald C hM 33 (dd_at td_image 92 rfl) (by decide) (by decide) (fc_of_ix g27) ?_
    obtain ⟨g28, hf⟩ := fc_of_gd hf
    refine mm_iast C hM 52 (dd_at td_image 93 rfl) (by decide) (by decide) (fc_of_ix g28) (fun st29 H locs est29 hM => ?_)
    replace hf := fc_of_nm hf st29 est29
    refine lv_aload_n C.1 C.2.1 (dd_at td_image 94 rfl) rfl (lv_at hl 0 rfl) ?_
    refine mm_gA C hM 53 (dd_at td_image 95 rfl) (by decide) (by decide) (by decide) ?_
    refine lv_iload_n C.1 C.2.1 (dd_at td_image 96 rfl) rfl (lv_at hl 1 rfl) ?_
    refine lv_aload_n C.1 C.2.1 (dd_at td_image 97 rfl) rfl (lv_at hl 0 rfl) ?_
    refine mm_gA C hM 34 (dd_at td_image 98 rfl) (by decide) (by decide) (by decide) ?_
    refine lv_iload_n C.1 C.2.1 (dd_at td_image 99 rfl) rfl (lv_at hl 1 rfl) ?_
    obtain ⟨g30, hf⟩ := fc_of_gd hf
    refine mm_iald C hM 34 (dd_at td_image 100 rfl) (by decide) (by decide) (fc_of_ix g30) ?_
    obtain ⟨g31, hf⟩ := fc_of_gd hf
    refine mm_iast C hM 53 (dd_at td_image 101 rfl) (by decide) (by decide) (fc_of_ix g31) (fun st32 H locs est32 hM => ?_)
    replace hf := fc_of_nm hf st32 est32
    refine lv_aload_n C.1 C.2.1 (dd_at td_image 102 rfl) rfl (lv_at hl 0 rfl) ?_
    refine mm_gA C hM 54 (dd_at td_image 103 rfl) (by decide) (by decide) (by decide) ?_
    refine lv_iload_n C.1 C.2.1 (dd_at td_image 104 rfl) rfl (lv_at hl 1 rfl) ?_
    refine lv_aload_n C.1 C.2.1 (dd_at td_image 105 rfl) rfl (lv_at hl 0 rfl) ?_
    refine mm_gA C hM 35 (dd_at td_image 106 rfl) (by decide) (by decide) (by decide) ?_
    refine lv_iload_n C.1 C.2.1 (dd_at td_image 107 rfl) rfl (lv_at hl 1 rfl) ?_
    obtain ⟨g33, hf⟩ := fc_of_gd hf
    refine mm_iald C hM 35 (dd_at td_image 108 rfl) (by decide) (by decide) (fc_of_ix g33) ?_
    obtain ⟨g34, hf⟩ := fc_of_gd hf
    refine mm_iast C hM 54 (dd_at td_image 109 rfl) (by decide) (by decide) (fc_of_ix g34) (fun st35 H locs est35 hM => ?_)
    replace hf := fc_of_nm hf st35 est35
    obtain ⟨v36, ev36⟩ : ∃ y : Int32, y = x1 + (1 : Int32) := ⟨_, rfl⟩
    replace hf := fc_of_nm hf v36 ev36
    refine lv_iinc (v := v36) (lv' := [(1, .int v36), (0, .ref o)]) C.1 C.2.1 (dd_at td_image 110 rfl) hl (k := 1) rfl (by rw [ev36]; rfl) (by decide) rfl (fun ls hl => ?_)
    refine lv_goto (tgt := 147) C.1 C.2.1 (dd_at td_image 111 rfl) (by decide) ?_
    exact hK147 v36 st35 _ _ _ hf (lv_sub hl [1, 0] rfl) hM
theorem w_image_b147 {p : Program} {l : Launch} {e : Env} {s : State} {m : MethodId} {args : Array Value} {below : List Frame} {meth : Method} {c : Code} {D : va_G} {o : Nat} {ad : Nat → Nat} {cs : ClassId × ClassId × ClassId} {r : Int32} {st' : mm_S} (C : mm_C p s m args meth c cX12_image 2 (some .int) D cs) (fu : Nat) (n : Nat) : ∀ (x1 : Int32) (st : mm_S), M_image_b147 fu n x1 st = some (r, st') → ∀ (H : Heap) (locs : List Loc) (ls : Array Slot), lv_has ls 2 [(0, .ref o), (1, .int x1)] → mm_H D o ad cs s.heap st H locs → W p l e (mm_R 0 0) s m args below meth c H locs 0 0 (MQ below (mm_Qi D o ad cs r st') args s 0 0 (mm_A o ad)) (F0 m 147 ls []) := by
  induction n with
  | zero => exact fun _ _ hf => fc_no hf
  | succ n ih =>
    intro x1 st hf H locs ls hl hM
    exact w_image_b147F C fu (fun x1 st => M_image_b147 fu n x1 st) (fun x1 st H locs ls hf hl hM => ih x1 st hf H locs ls hl hM) x1 st hf hl hM
theorem w_image_b121F {p : Program} {l : Launch} {e : Env} {s : State} {m : MethodId} {args : Array Value} {below : List Frame} {meth : Method} {c : Code} {D : va_G} {o : Nat} {ad : Nat → Nat} {cs : ClassId × ClassId × ClassId} {r : Int32} {st' : mm_S} (C : mm_C p s m args meth c cX12_image 2 (some .int) D cs) (fu : Nat) (K121 : Int32 → mm_S → Option (Int32 × mm_S)) (hK121 : ∀ (x1 : Int32) (st : mm_S) (H : Heap) (locs : List Loc) (ls : Array Slot), K121 x1 st = some (r, st') → lv_has ls 2 [(0, .ref o), (1, .int x1)] → mm_H D o ad cs s.heap st H locs → W p l e (mm_R 0 0) s m args below meth c H locs 0 0 (MQ below (mm_Qi D o ad cs r st') args s 0 0 (mm_A o ad)) (F0 m 121 ls [])) (x1 : Int32) (st : mm_S) (hf : M_image_b121F fu K121 x1 st = some (r, st')) {H : Heap} {locs : List Loc} {ls : Array Slot} (hl : lv_has ls 2 [(0, .ref o), (1, .int x1)]) (hM : mm_H D o ad cs s.heap st H locs) : W p l e (mm_R 0 0) s m args below meth c H locs 0 0 (MQ below (mm_Qi D o ad cs r st') args s 0 0 (mm_A o ad)) (F0 m 121 ls []) := by
  unfold M_image_b121F at hf
  refine lv_iload_n C.1 C.2.1 (dd_at td_image 68 rfl) rfl (lv_at hl 1 rfl) ?_
  refine lv_bipush (v := (24 : Int32)) C.1 C.2.1 (dd_at td_image 69 rfl) (by decide) ?_
  refine lv_icmp_ge (tgt := 145) C.1 C.2.1 (dd_at td_image 70 rfl) (by decide) (fun c21 => ?_) (fun c21 => ?_)
  · replace hf := fc_of_t hf c21
    refine lv_iconst (v := (0 : Int32)) C.1 C.2.1 (dd_at td_image 81 rfl) (by decide) ?_
    refine lv_istore_n (lv' := [(1, .int (0 : Int32)), (0, .ref o)]) C.1 C.2.1 (dd_at td_image 82 rfl) rfl hl (by decide) rfl (fun ls hl => ?_)
    exact w_image_b147 C fu fu (0 : Int32) st hf _ _ _ (lv_sub hl [1, 0] rfl) hM
  · replace hf := fc_of_f hf c21
    refine lv_aload_n C.1 C.2.1 (dd_at td_image 71 rfl) rfl (lv_at hl 0 rfl) ?_
    refine mm_gA C hM 50 (dd_at td_image 72 rfl) (by decide) (by decide) (by decide) ?_
    refine lv_iload_n C.1 C.2.1 (dd_at td_image 73 rfl) rfl (lv_at hl 1 rfl) ?_
    refine lv_aload_n C.1 C.2.1 (dd_at td_image 74 rfl) rfl (lv_at hl 0 rfl) ?_
    refine mm_gA C hM 7 (dd_at td_image 75 rfl) (by decide) (by decide) (by decide) ?_
    refine lv_iload_n C.1 C.2.1 (dd_at td_image 76 rfl) rfl (lv_at hl 1 rfl) ?_
    obtain ⟨g22, hf⟩ := fc_of_gd hf
    refine mm_iald C hM 7 (dd_at td_image 77 rfl) (by decide) (by decide) (fc_of_ix g22) ?_
    obtain ⟨g23, hf⟩ := fc_of_gd hf
    refine mm_iast C hM 50 (dd_at td_image 78 rfl) (by decide) (by decide) (fc_of_ix g23) (fun st24 H locs est24 hM => ?_)
    replace hf := fc_of_nm hf st24 est24
    obtain ⟨v25, ev25⟩ : ∃ y : Int32, y = x1 + (1 : Int32) := ⟨_, rfl⟩
    replace hf := fc_of_nm hf v25 ev25
    refine lv_iinc (v := v25) (lv' := [(1, .int v25), (0, .ref o)]) C.1 C.2.1 (dd_at td_image 79 rfl) hl (k := 1) rfl (by rw [ev25]; rfl) (by decide) rfl (fun ls hl => ?_)
    refine lv_goto (tgt := 121) C.1 C.2.1 (dd_at td_image 80 rfl) (by decide) ?_
    exact hK121 v25 st24 _ _ _ hf (lv_sub hl [1, 0] rfl) hM
theorem w_image_b121 {p : Program} {l : Launch} {e : Env} {s : State} {m : MethodId} {args : Array Value} {below : List Frame} {meth : Method} {c : Code} {D : va_G} {o : Nat} {ad : Nat → Nat} {cs : ClassId × ClassId × ClassId} {r : Int32} {st' : mm_S} (C : mm_C p s m args meth c cX12_image 2 (some .int) D cs) (fu : Nat) (n : Nat) : ∀ (x1 : Int32) (st : mm_S), M_image_b121 fu n x1 st = some (r, st') → ∀ (H : Heap) (locs : List Loc) (ls : Array Slot), lv_has ls 2 [(0, .ref o), (1, .int x1)] → mm_H D o ad cs s.heap st H locs → W p l e (mm_R 0 0) s m args below meth c H locs 0 0 (MQ below (mm_Qi D o ad cs r st') args s 0 0 (mm_A o ad)) (F0 m 121 ls []) := by
  induction n with
  | zero => exact fun _ _ hf => fc_no hf
  | succ n ih =>
    intro x1 st hf H locs ls hl hM
    exact w_image_b121F C fu (fun x1 st => M_image_b121 fu n x1 st) (fun x1 st H locs ls hf hl hM => ih x1 st hf H locs ls hl hM) x1 st hf hl hM
theorem w_image_b71F {p : Program} {l : Launch} {e : Env} {s : State} {m : MethodId} {args : Array Value} {below : List Frame} {meth : Method} {c : Code} {D : va_G} {o : Nat} {ad : Nat → Nat} {cs : ClassId × ClassId × ClassId} {r : Int32} {st' : mm_S} (C : mm_C p s m args meth c cX12_image 2 (some .int) D cs) (fu : Nat) (K71 : Int32 → mm_S → Option (Int32 × mm_S)) (hK71 : ∀ (x1 : Int32) (st : mm_S) (H : Heap) (locs : List Loc) (ls : Array Slot), K71 x1 st = some (r, st') → lv_has ls 2 [(0, .ref o), (1, .int x1)] → mm_H D o ad cs s.heap st H locs → W p l e (mm_R 0 0) s m args below meth c H locs 0 0 (MQ below (mm_Qi D o ad cs r st') args s 0 0 (mm_A o ad)) (F0 m 71 ls [])) (x1 : Int32) (st : mm_S) (hf : M_image_b71F fu K71 x1 st = some (r, st')) {H : Heap} {locs : List Loc} {ls : Array Slot} (hl : lv_has ls 2 [(0, .ref o), (1, .int x1)]) (hM : mm_H D o ad cs s.heap st H locs) : W p l e (mm_R 0 0) s m args below meth c H locs 0 0 (MQ below (mm_Qi D o ad cs r st') args s 0 0 (mm_A o ad)) (F0 m 71 ls []) := by
  unfold M_image_b71F at hf
  refine lv_iload_n C.1 C.2.1 (dd_at td_image 37 rfl) rfl (lv_at hl 1 rfl) ?_
  refine lv_bipush (v := (6 : Int32)) C.1 C.2.1 (dd_at td_image 38 rfl) (by decide) ?_
  refine lv_icmp_ge (tgt := 119) C.1 C.2.1 (dd_at td_image 39 rfl) (by decide) (fun c10 => ?_) (fun c10 => ?_)
  · replace hf := fc_of_t hf c10
    refine lv_iconst (v := (0 : Int32)) C.1 C.2.1 (dd_at td_image 66 rfl) (by decide) ?_
    refine lv_istore_n (lv' := [(1, .int (0 : Int32)), (0, .ref o)]) C.1 C.2.1 (dd_at td_image 67 rfl) rfl hl (by decide) rfl (fun ls hl => ?_)
    exact w_image_b121 C fu fu (0 : Int32) st hf _ _ _ (lv_sub hl [1, 0] rfl) hM
  · replace hf := fc_of_f hf c10
    refine lv_aload_n C.1 C.2.1 (dd_at td_image 40 rfl) rfl (lv_at hl 0 rfl) ?_
    refine mm_gA C hM 47 (dd_at td_image 41 rfl) (by decide) (by decide) (by decide) ?_
    refine lv_iload_n C.1 C.2.1 (dd_at td_image 42 rfl) rfl (lv_at hl 1 rfl) ?_
    refine lv_aload_n C.1 C.2.1 (dd_at td_image 43 rfl) rfl (lv_at hl 0 rfl) ?_
    refine mm_gA C hM 4 (dd_at td_image 44 rfl) (by decide) (by decide) (by decide) ?_
    refine lv_iload_n C.1 C.2.1 (dd_at td_image 45 rfl) rfl (lv_at hl 1 rfl) ?_
    obtain ⟨g11, hf⟩ := fc_of_gd hf
    refine mm_iald C hM 4 (dd_at td_image 46 rfl) (by decide) (by decide) (fc_of_ix g11) ?_
    obtain ⟨g12, hf⟩ := fc_of_gd hf
    refine mm_iast C hM 47 (dd_at td_image 47 rfl) (by decide) (by decide) (fc_of_ix g12) (fun st13 H locs est13 hM => ?_)
    replace hf := fc_of_nm hf st13 est13
    refine lv_aload_n C.1 C.2.1 (dd_at td_image 48 rfl) rfl (lv_at hl 0 rfl) ?_
    refine mm_gA C hM 48 (dd_at td_image 49 rfl) (by decide) (by decide) (by decide) ?_
    refine lv_iload_n C.1 C.2.1 (dd_at td_image 50 rfl) rfl (lv_at hl 1 rfl) ?_
    refine lv_aload_n C.1 C.2.1 (dd_at td_image 51 rfl) rfl (lv_at hl 0 rfl) ?_
    refine mm_gA C hM 5 (dd_at td_image 52 rfl) (by decide) (by decide) (by decide) ?_
    refine lv_iload_n C.1 C.2.1 (dd_at td_image 53 rfl) rfl (lv_at hl 1 rfl) ?_
    obtain ⟨g14, hf⟩ := fc_of_gd hf
    refine mm_iald C hM 5 (dd_at td_image 54 rfl) (by decide) (by decide) (fc_of_ix g14) ?_
    obtain ⟨g15, hf⟩ := fc_of_gd hf
    refine mm_iast C hM 48 (dd_at td_image 55 rfl) (by decide) (by decide) (fc_of_ix g15) (fun st16 H locs est16 hM => ?_)
    replace hf := fc_of_nm hf st16 est16
    refine lv_aload_n C.1 C.2.1 (dd_at td_image 56 rfl) rfl (lv_at hl 0 rfl) ?_
    refine mm_gA C hM 49 (dd_at td_image 57 rfl) (by decide) (by decide) (by decide) ?_
    refine lv_iload_n C.1 C.2.1 (dd_at td_image 58 rfl) rfl (lv_at hl 1 rfl) ?_
    refine lv_aload_n C.1 C.2.1 (dd_at td_image 59 rfl) rfl (lv_at hl 0 rfl) ?_
    refine mm_gA C hM 6 (dd_at td_image 60 rfl) (by decide) (by decide) (by decide) ?_
    refine lv_iload_n C.1 C.2.1 (dd_at td_image 61 rfl) rfl (lv_at hl 1 rfl) ?_
    obtain ⟨g17, hf⟩ := fc_of_gd hf
    refine mm_iald C hM 6 (dd_at td_image 62 rfl) (by decide) (by decide) (fc_of_ix g17) ?_
    obtain ⟨g18, hf⟩ := fc_of_gd hf
    refine mm_iast C hM 49 (dd_at td_image 63 rfl) (by decide) (by decide) (fc_of_ix g18) (fun st19 H locs est19 hM => ?_)
    replace hf := fc_of_nm hf st19 est19
    obtain ⟨v20, ev20⟩ : ∃ y : Int32, y = x1 + (1 : Int32) := ⟨_, rfl⟩
    replace hf := fc_of_nm hf v20 ev20
    refine lv_iinc (v := v20) (lv' := [(1, .int v20), (0, .ref o)]) C.1 C.2.1 (dd_at td_image 64 rfl) hl (k := 1) rfl (by rw [ev20]; rfl) (by decide) rfl (fun ls hl => ?_)
    refine lv_goto (tgt := 71) C.1 C.2.1 (dd_at td_image 65 rfl) (by decide) ?_
    exact hK71 v20 st19 _ _ _ hf (lv_sub hl [1, 0] rfl) hM
theorem w_image_b71 {p : Program} {l : Launch} {e : Env} {s : State} {m : MethodId} {args : Array Value} {below : List Frame} {meth : Method} {c : Code} {D : va_G} {o : Nat} {ad : Nat → Nat} {cs : ClassId × ClassId × ClassId} {r : Int32} {st' : mm_S} (C : mm_C p s m args meth c cX12_image 2 (some .int) D cs) (fu : Nat) (n : Nat) : ∀ (x1 : Int32) (st : mm_S), M_image_b71 fu n x1 st = some (r, st') → ∀ (H : Heap) (locs : List Loc) (ls : Array Slot), lv_has ls 2 [(0, .ref o), (1, .int x1)] → mm_H D o ad cs s.heap st H locs → W p l e (mm_R 0 0) s m args below meth c H locs 0 0 (MQ below (mm_Qi D o ad cs r st') args s 0 0 (mm_A o ad)) (F0 m 71 ls []) := by
  induction n with
  | zero => exact fun _ _ hf => fc_no hf
  | succ n ih =>
    intro x1 st hf H locs ls hl hM
    exact w_image_b71F C fu (fun x1 st => M_image_b71 fu n x1 st) (fun x1 st H locs ls hf hl hM => ih x1 st hf H locs ls hl hM) x1 st hf hl hM
theorem w_image {p : Program} {l : Launch} {e : Env} {s : State} {m : MethodId} {args : Array Value} {below : List Frame} {meth : Method} {c : Code} {D : va_G} {o : Nat} {ad : Nat → Nat} {cs : ClassId × ClassId × ClassId} {r : Int32} {st' : mm_S} (C : mm_C p s m args meth c cX12_image 2 (some .int) D cs) (fu : Nat) (st : mm_S) (hf : M_image fu st = some (r, st')) {H : Heap} {locs : List Loc} {ls : Array Slot} (hl : lv_has ls 2 [(0, .ref o)]) (hM : mm_H D o ad cs s.heap st H locs) : W p l e (mm_R 0 0) s m args below meth c H locs 0 0 (MQ below (mm_Qi D o ad cs r st') args s 0 0 (mm_A o ad)) (F0 m 0 ls []) := by
  unfold M_image at hf
  refine lv_aload_n C.1 C.2.1 (dd_at td_image 0 rfl) rfl (lv_at hl 0 rfl) ?_
  refine lv_iconst (v := (1 : Int32)) C.1 C.2.1 (dd_at td_image 1 rfl) (by decide) ?_
  refine mm_pI C hM 38 (dd_at td_image 2 rfl) (by decide) (by decide) (by decide) rfl rfl (fun st1 H locs est1 hM => ?_)
  replace hf := fc_of_nm hf st1 est1
  refine lv_aload_n C.1 C.2.1 (dd_at td_image 3 rfl) rfl (lv_at hl 0 rfl) ?_
  refine lv_aload_n C.1 C.2.1 (dd_at td_image 4 rfl) rfl (lv_at hl 0 rfl) ?_
  refine mm_gI C hM 9 (dd_at td_image 5 rfl) (by decide) (by decide) (by decide) ?_
  refine mm_pI C hM 39 (dd_at td_image 6 rfl) (by decide) (by decide) (by decide) rfl rfl (fun st2 H locs est2 hM => ?_)
  replace hf := fc_of_nm hf st2 est2
  refine lv_aload_n C.1 C.2.1 (dd_at td_image 7 rfl) rfl (lv_at hl 0 rfl) ?_
  refine lv_aload_n C.1 C.2.1 (dd_at td_image 8 rfl) rfl (lv_at hl 0 rfl) ?_
  refine mm_gI C hM 0 (dd_at td_image 9 rfl) (by decide) (by decide) (by decide) ?_
  refine mm_pI C hM 40 (dd_at td_image 10 rfl) (by decide) (by decide) (by decide) rfl rfl (fun st3 H locs est3 hM => ?_)
  replace hf := fc_of_nm hf st3 est3
  refine lv_aload_n C.1 C.2.1 (dd_at td_image 11 rfl) rfl (lv_at hl 0 rfl) ?_
  refine lv_aload_n C.1 C.2.1 (dd_at td_image 12 rfl) rfl (lv_at hl 0 rfl) ?_
  refine mm_gI C hM 1 (dd_at td_image 13 rfl) (by decide) (by decide) (by decide) ?_
  refine mm_pI C hM 41 (dd_at td_image 14 rfl) (by decide) (by decide) (by decide) rfl rfl (fun st4 H locs est4 hM => ?_)
  replace hf := fc_of_nm hf st4 est4
  refine lv_aload_n C.1 C.2.1 (dd_at td_image 15 rfl) rfl (lv_at hl 0 rfl) ?_
  refine lv_aload_n C.1 C.2.1 (dd_at td_image 16 rfl) rfl (lv_at hl 0 rfl) ?_
  refine mm_gI C hM 2 (dd_at td_image 17 rfl) (by decide) (by decide) (by decide) ?_
  refine mm_pI C hM 42 (dd_at td_image 18 rfl) (by decide) (by decide) (by decide) rfl rfl (fun st5 H locs est5 hM => ?_)
  replace hf := fc_of_nm hf st5 est5
  refine lv_aload_n C.1 C.2.1 (dd_at td_image 19 rfl) rfl (lv_at hl 0 rfl) ?_
  refine lv_aload_n C.1 C.2.1 (dd_at td_image 20 rfl) rfl (lv_at hl 0 rfl) ?_
  refine mm_gI C hM 3 (dd_at td_image 21 rfl) (by decide) (by decide) (by decide) ?_
  refine mm_pI C hM 43 (dd_at td_image 22 rfl) (by decide) (by decide) (by decide) rfl rfl (fun st6 H locs est6 hM => ?_)
  replace hf := fc_of_nm hf st6 est6
  refine lv_aload_n C.1 C.2.1 (dd_at td_image 23 rfl) rfl (lv_at hl 0 rfl) ?_
  refine lv_aload_n C.1 C.2.1 (dd_at td_image 24 rfl) rfl (lv_at hl 0 rfl) ?_
  refine mm_gI C hM 29 (dd_at td_image 25 rfl) (by decide) (by decide) (by decide) ?_
  refine mm_pI C hM 44 (dd_at td_image 26 rfl) (by decide) (by decide) (by decide) rfl rfl (fun st7 H locs est7 hM => ?_)
  replace hf := fc_of_nm hf st7 est7
  refine lv_aload_n C.1 C.2.1 (dd_at td_image 27 rfl) rfl (lv_at hl 0 rfl) ?_
  refine lv_aload_n C.1 C.2.1 (dd_at td_image 28 rfl) rfl (lv_at hl 0 rfl) ?_
  refine mm_gI C hM 31 (dd_at td_image 29 rfl) (by decide) (by decide) (by decide) ?_
  refine mm_pI C hM 45 (dd_at td_image 30 rfl) (by decide) (by decide) (by decide) rfl rfl (fun st8 H locs est8 hM => ?_)
  replace hf := fc_of_nm hf st8 est8
  refine lv_aload_n C.1 C.2.1 (dd_at td_image 31 rfl) rfl (lv_at hl 0 rfl) ?_
  refine lv_aload_n C.1 C.2.1 (dd_at td_image 32 rfl) rfl (lv_at hl 0 rfl) ?_
  refine mm_gI C hM 32 (dd_at td_image 33 rfl) (by decide) (by decide) (by decide) ?_
  refine mm_pI C hM 46 (dd_at td_image 34 rfl) (by decide) (by decide) (by decide) rfl rfl (fun st9 H locs est9 hM => ?_)
  replace hf := fc_of_nm hf st9 est9
  refine lv_iconst (v := (0 : Int32)) C.1 C.2.1 (dd_at td_image 35 rfl) (by decide) ?_
  refine lv_istore_n (lv' := [(1, .int (0 : Int32)), (0, .ref o)]) C.1 C.2.1 (dd_at td_image 36 rfl) rfl hl (by decide) rfl (fun ls hl => ?_)
  exact w_image_b71 C fu fu (0 : Int32) st9 hf _ _ _ (lv_sub hl [1, 0] rfl) hM
theorem c_image (l : Launch) (D : va_G) (o : Nat) (ad : Nat → Nat) (cs : ClassId × ClassId × ClassId) (fu : Nat) (st : mm_S) : mm_Mi l D o ad cs yX12_image cX12_image 2 (some .int) 0 0 [] st (M_image fu st) := by
  intro r st' hf
  refine mm_enter (cc := cX12_image) (nL := 2) (ret := some .int) (by decide) rfl (Nat.le_of_ble_eq_true rfl) ?_
  intro p e s m args below meth c ls C hl hM
  exact w_image C fu st hf hl hM
end
section
/-! undo -/
def tb_undo : List (Nat × Instr × Nat) := [(0, .aload_n 0, 1), (1, .getfield 127, 3), (4, .ifCond .ne 6, 3), (7, .bipush (-3), 2), (9, .ireturn, 1), (10, .aload_n 0, 1), (11, .aload_n 0, 1), (12, .getfield 131, 3), (15, .putfield 38, 3), (18, .aload_n 0, 1), (19, .aload_n 0, 1), (20, .getfield 134, 3), (23, .putfield 7, 3), (26, .aload_n 0, 1), (27, .aload_n 0, 1), (28, .getfield 137, 3), (31, .putfield 13, 3), (34, .aload_n 0, 1), (35, .aload_n 0, 1), (36, .getfield 140, 3), (39, .putfield 16, 3), (42, .aload_n 0, 1), (43, .aload_n 0, 1), (44, .getfield 143, 3), (47, .putfield 19, 3), (50, .aload_n 0, 1), (51, .aload_n 0, 1), (52, .getfield 146, 3), (55, .putfield 100, 3), (58, .aload_n 0, 1), (59, .aload_n 0, 1), (60, .getfield 149, 3), (63, .putfield 106, 3), (66, .aload_n 0, 1), (67, .aload_n 0, 1), (68, .getfield 152, 3), (71, .putfield 109, 3), (74, .iconst 0, 1), (75, .istore_n 1, 1), (76, .iload_n 1, 1), (77, .bipush 6, 2), (79, .if_icmp .ge 45, 3), (82, .aload_n 0, 1), (83, .getfield 22, 3), (86, .iload_n 1, 1), (87, .aload_n 0, 1), (88, .getfield 155, 3), (91, .iload_n 1, 1), (92, .iaload, 1), (93, .iastore, 1), (94, .aload_n 0, 1), (95, .getfield 26, 3), (98, .iload_n 1, 1), (99, .aload_n 0, 1), (100, .getfield 158, 3), (103, .iload_n 1, 1), (104, .iaload, 1), (105, .iastore, 1), (106, .aload_n 0, 1), (107, .getfield 29, 3), (110, .iload_n 1, 1), (111, .aload_n 0, 1), (112, .getfield 161, 3), (115, .iload_n 1, 1), (116, .iaload, 1), (117, .iastore, 1), (118, .iinc 1 1, 3), (121, .goto (-45), 3), (124, .iconst 0, 1), (125, .istore_n 1, 1), (126, .iload_n 1, 1), (127, .bipush 24, 2), (129, .if_icmp .ge 21, 3), (132, .aload_n 0, 1), (133, .getfield 32, 3), (136, .iload_n 1, 1), (137, .aload_n 0, 1), (138, .getfield 164, 3), (141, .iload_n 1, 1), (142, .iaload, 1), (143, .iastore, 1), (144, .iinc 1 1, 3), (147, .goto (-21), 3), (150, .iconst 0, 1), (151, .istore_n 1, 1), (152, .iload_n 1, 1), (153, .iconst 5, 1), (154, .if_icmp .ge 45, 3), (157, .aload_n 0, 1), (158, .getfield 112, 3), (161, .iload_n 1, 1), (162, .aload_n 0, 1), (163, .getfield 170, 3), (166, .iload_n 1, 1), (167, .iaload, 1), (168, .iastore, 1), (169, .aload_n 0, 1), (170, .getfield 115, 3), (173, .iload_n 1, 1), (174, .aload_n 0, 1), (175, .getfield 173, 3), (178, .iload_n 1, 1), (179, .iaload, 1), (180, .iastore, 1), (181, .aload_n 0, 1), (182, .getfield 118, 3), (185, .iload_n 1, 1), (186, .aload_n 0, 1), (187, .getfield 176, 3), (190, .iload_n 1, 1), (191, .iaload, 1), (192, .iastore, 1), (193, .iinc 1 1, 3), (196, .goto (-44), 3), (199, .iconst 0, 1), (200, .istore_n 1, 1), (201, .iload_n 1, 1), (202, .bipush 8, 2), (204, .if_icmp .ge 45, 3), (207, .aload_n 0, 1), (208, .getfield 103, 3), (211, .iload_n 1, 1), (212, .aload_n 0, 1), (213, .getfield 167, 3), (216, .iload_n 1, 1), (217, .iaload, 1), (218, .iastore, 1), (219, .aload_n 0, 1), (220, .getfield 121, 3), (223, .iload_n 1, 1), (224, .aload_n 0, 1), (225, .getfield 179, 3), (228, .iload_n 1, 1), (229, .iaload, 1), (230, .iastore, 1), (231, .aload_n 0, 1), (232, .getfield 124, 3), (235, .iload_n 1, 1), (236, .aload_n 0, 1), (237, .getfield 182, 3), (240, .iload_n 1, 1), (241, .iaload, 1), (242, .iastore, 1), (243, .iinc 1 1, 3), (246, .goto (-45), 3), (249, .aload_n 0, 1), (250, .getfield 7, 3), (253, .ireturn, 1)]
theorem td_undo : tb_undo.all (fun q => decide (decode cX12_undo q.1 = .ok (q.2.1, q.2.2))) = true := by decide +kernel
theorem w_undo_b201F {p : Program} {l : Launch} {e : Env} {s : State} {m : MethodId} {args : Array Value} {below : List Frame} {meth : Method} {c : Code} {D : va_G} {o : Nat} {ad : Nat → Nat} {cs : ClassId × ClassId × ClassId} {r : Int32} {st' : mm_S} (C : mm_C p s m args meth c cX12_undo 2 (some .int) D cs) (fu : Nat) (K201 : Int32 → mm_S → Option (Int32 × mm_S)) (hK201 : ∀ (x1 : Int32) (st : mm_S) (H : Heap) (locs : List Loc) (ls : Array Slot), K201 x1 st = some (r, st') → lv_has ls 2 [(0, .ref o), (1, .int x1)] → mm_H D o ad cs s.heap st H locs → W p l e (mm_R 0 0) s m args below meth c H locs 0 0 (MQ below (mm_Qi D o ad cs r st') args s 0 0 (mm_A o ad)) (F0 m 201 ls [])) (x1 : Int32) (st : mm_S) (hf : M_undo_b201F fu K201 x1 st = some (r, st')) {H : Heap} {locs : List Loc} {ls : Array Slot} (hl : lv_has ls 2 [(0, .ref o), (1, .int x1)]) (hM : mm_H D o ad cs s.heap st H locs) : W p l e (mm_R 0 0) s m args below meth c H locs 0 0 (MQ below (mm_Qi D o ad cs r st') args s 0 0 (mm_A o ad)) (F0 m 201 ls []) := by
  unfold M_undo_b201F at hf
  refine lv_iload_n C.1 C.2.1 (dd_at td_undo 116 rfl) rfl (lv_at hl 1 rfl) ?_
  refine lv_bipush (v := (8 : Int32)) C.1 C.2.1 (dd_at td_undo 117 rfl) (by decide) ?_
  refine lv_icmp_ge (tgt := 249) C.1 C.2.1 (dd_at td_undo 118 rfl) (by decide) (fun c37 => ?_) (fun c37 => ?_)
  · replace hf := fc_of_t hf c37
    refine lv_aload_n C.1 C.2.1 (dd_at td_undo 145 rfl) rfl (lv_at hl 0 rfl) ?_
    refine mm_gI C hM 0 (dd_at td_undo 146 rfl) (by decide) (by decide) (by decide) ?_
    exact mm_ri C hM (dd_at td_undo 147 rfl) hf
  · replace hf := fc_of_f hf c37
    refine lv_aload_n C.1 C.2.1 (dd_at td_undo 119 rfl) rfl (lv_at hl 0 rfl) ?_
    refine mm_gA C hM 30 (dd_at td_undo 120 rfl) (by decide) (by decide) (by decide) ?_
    refine lv_iload_n C.1 C.2.1 (dd_at td_undo 121 rfl) rfl (lv_at hl 1 rfl) ?_
    refine lv_aload_n C.1 C.2.1 (dd_at td_undo 122 rfl) rfl (lv_at hl 0 rfl) ?_
    refine mm_gA C hM 51 (dd_at td_undo 123 rfl) (by decide) (by decide) (by decide) ?_
    refine lv_iload_n C.1 C.2.1 (dd_at td_undo 124 rfl) rfl (lv_at hl 1 rfl) ?_
    obtain ⟨g38, hf⟩ := fc_of_gd hf
    refine mm_iald C hM 51 (dd_at td_undo 125 rfl) (by decide) (by decide) (fc_of_ix g38) ?_
    obtain ⟨g39, hf⟩ := fc_of_gd hf
    refine mm_iast C hM 30 (dd_at td_undo 126 rfl) (by decide) (by decide) (fc_of_ix g39) (fun st40 H locs est40 hM => ?_)
    replace hf := fc_of_nm hf st40 est40
    refine lv_aload_n C.1 C.2.1 (dd_at td_undo 127 rfl) rfl (lv_at hl 0 rfl) ?_
    refine mm_gA C hM 36 (dd_at td_undo 128 rfl) (by decide) (by decide) (by decide) ?_
    refine lv_iload_n C.1 C.2.1 (dd_at td_undo 129 rfl) rfl (lv_at hl 1 rfl) ?_
    refine lv_aload_n C.1 C.2.1 (dd_at td_undo 130 rfl) rfl (lv_at hl 0 rfl) ?_
    refine mm_gA C hM 55 (dd_at td_undo 131 rfl) (by decide) (by decide) (by decide) ?_
    refine lv_iload_n C.1 C.2.1 (dd_at td_undo 132 rfl) rfl (lv_at hl 1 rfl) ?_
    obtain ⟨g41, hf⟩ := fc_of_gd hf
    refine mm_iald C hM 55 (dd_at td_undo 133 rfl) (by decide) (by decide) (fc_of_ix g41) ?_
    obtain ⟨g42, hf⟩ := fc_of_gd hf
    refine mm_iast C hM 36 (dd_at td_undo 134 rfl) (by decide) (by decide) (fc_of_ix g42) (fun st43 H locs est43 hM => ?_)
    replace hf := fc_of_nm hf st43 est43
    refine lv_aload_n C.1 C.2.1 (dd_at td_undo 135 rfl) rfl (lv_at hl 0 rfl) ?_
    refine mm_gA C hM 37 (dd_at td_undo 136 rfl) (by decide) (by decide) (by decide) ?_
    refine lv_iload_n C.1 C.2.1 (dd_at td_undo 137 rfl) rfl (lv_at hl 1 rfl) ?_
    refine lv_aload_n C.1 C.2.1 (dd_at td_undo 138 rfl) rfl (lv_at hl 0 rfl) ?_
    refine mm_gA C hM 56 (dd_at td_undo 139 rfl) (by decide) (by decide) (by decide) ?_
    refine lv_iload_n C.1 C.2.1 (dd_at td_undo 140 rfl) rfl (lv_at hl 1 rfl) ?_
    obtain ⟨g44, hf⟩ := fc_of_gd hf
    refine mm_iald C hM 56 (dd_at td_undo 141 rfl) (by decide) (by decide) (fc_of_ix g44) ?_
    obtain ⟨g45, hf⟩ := fc_of_gd hf
    refine mm_iast C hM 37 (dd_at td_undo 142 rfl) (by decide) (by decide) (fc_of_ix g45) (fun st46 H locs est46 hM => ?_)
    replace hf := fc_of_nm hf st46 est46
    obtain ⟨v47, ev47⟩ : ∃ y : Int32, y = x1 + (1 : Int32) := ⟨_, rfl⟩
    replace hf := fc_of_nm hf v47 ev47
    refine lv_iinc (v := v47) (lv' := [(1, .int v47), (0, .ref o)]) C.1 C.2.1 (dd_at td_undo 143 rfl) hl (k := 1) rfl (by rw [ev47]; rfl) (by decide) rfl (fun ls hl => ?_)
    refine lv_goto (tgt := 201) C.1 C.2.1 (dd_at td_undo 144 rfl) (by decide) ?_
    exact hK201 v47 st46 _ _ _ hf (lv_sub hl [1, 0] rfl) hM
theorem w_undo_b201 {p : Program} {l : Launch} {e : Env} {s : State} {m : MethodId} {args : Array Value} {below : List Frame} {meth : Method} {c : Code} {D : va_G} {o : Nat} {ad : Nat → Nat} {cs : ClassId × ClassId × ClassId} {r : Int32} {st' : mm_S} (C : mm_C p s m args meth c cX12_undo 2 (some .int) D cs) (fu : Nat) (n : Nat) : ∀ (x1 : Int32) (st : mm_S), M_undo_b201 fu n x1 st = some (r, st') → ∀ (H : Heap) (locs : List Loc) (ls : Array Slot), lv_has ls 2 [(0, .ref o), (1, .int x1)] → mm_H D o ad cs s.heap st H locs → W p l e (mm_R 0 0) s m args below meth c H locs 0 0 (MQ below (mm_Qi D o ad cs r st') args s 0 0 (mm_A o ad)) (F0 m 201 ls []) := by
  induction n with
  | zero => exact fun _ _ hf => fc_no hf
  | succ n ih =>
    intro x1 st hf H locs ls hl hM
    exact w_undo_b201F C fu (fun x1 st => M_undo_b201 fu n x1 st) (fun x1 st H locs ls hf hl hM => ih x1 st hf H locs ls hl hM) x1 st hf hl hM
theorem w_undo_b152F {p : Program} {l : Launch} {e : Env} {s : State} {m : MethodId} {args : Array Value} {below : List Frame} {meth : Method} {c : Code} {D : va_G} {o : Nat} {ad : Nat → Nat} {cs : ClassId × ClassId × ClassId} {r : Int32} {st' : mm_S} (C : mm_C p s m args meth c cX12_undo 2 (some .int) D cs) (fu : Nat) (K152 : Int32 → mm_S → Option (Int32 × mm_S)) (hK152 : ∀ (x1 : Int32) (st : mm_S) (H : Heap) (locs : List Loc) (ls : Array Slot), K152 x1 st = some (r, st') → lv_has ls 2 [(0, .ref o), (1, .int x1)] → mm_H D o ad cs s.heap st H locs → W p l e (mm_R 0 0) s m args below meth c H locs 0 0 (MQ below (mm_Qi D o ad cs r st') args s 0 0 (mm_A o ad)) (F0 m 152 ls [])) (x1 : Int32) (st : mm_S) (hf : M_undo_b152F fu K152 x1 st = some (r, st')) {H : Heap} {locs : List Loc} {ls : Array Slot} (hl : lv_has ls 2 [(0, .ref o), (1, .int x1)]) (hM : mm_H D o ad cs s.heap st H locs) : W p l e (mm_R 0 0) s m args below meth c H locs 0 0 (MQ below (mm_Qi D o ad cs r st') args s 0 0 (mm_A o ad)) (F0 m 152 ls []) := by
  unfold M_undo_b152F at hf
  refine lv_iload_n C.1 C.2.1 (dd_at td_undo 85 rfl) rfl (lv_at hl 1 rfl) ?_
  refine lv_iconst (v := (5 : Int32)) C.1 C.2.1 (dd_at td_undo 86 rfl) (by decide) ?_
  refine lv_icmp_ge (tgt := 199) C.1 C.2.1 (dd_at td_undo 87 rfl) (by decide) (fun c26 => ?_) (fun c26 => ?_)
  · replace hf := fc_of_t hf c26
    refine lv_iconst (v := (0 : Int32)) C.1 C.2.1 (dd_at td_undo 114 rfl) (by decide) ?_
    refine lv_istore_n (lv' := [(1, .int (0 : Int32)), (0, .ref o)]) C.1 C.2.1 (dd_at td_undo 115 rfl) rfl hl (by decide) rfl (fun ls hl => ?_)
    exact w_undo_b201 C fu fu (0 : Int32) st hf _ _ _ (lv_sub hl [1, 0] rfl) hM
  · replace hf := fc_of_f hf c26
    refine lv_aload_n C.1 C.2.1 (dd_at td_undo 88 rfl) rfl (lv_at hl 0 rfl) ?_
    refine mm_gA C hM 33 (dd_at td_undo 89 rfl) (by decide) (by decide) (by decide) ?_
    refine lv_iload_n C.1 C.2.1 (dd_at td_undo 90 rfl) rfl (lv_at hl 1 rfl) ?_
    refine lv_aload_n C.1 C.2.1 (dd_at td_undo 91 rfl) rfl (lv_at hl 0 rfl) ?_
    refine mm_gA C hM 52 (dd_at td_undo 92 rfl) (by decide) (by decide) (by decide) ?_
    refine lv_iload_n C.1 C.2.1 (dd_at td_undo 93 rfl) rfl (lv_at hl 1 rfl) ?_
    obtain ⟨g27, hf⟩ := fc_of_gd hf
    refine mm_iald C hM 52 (dd_at td_undo 94 rfl) (by decide) (by decide) (fc_of_ix g27) ?_
    obtain ⟨g28, hf⟩ := fc_of_gd hf
    refine mm_iast C hM 33 (dd_at td_undo 95 rfl) (by decide) (by decide) (fc_of_ix g28) (fun st29 H locs est29 hM => ?_)
    replace hf := fc_of_nm hf st29 est29
    refine lv_aload_n C.1 C.2.1 (dd_at td_undo 96 rfl) rfl (lv_at hl 0 rfl) ?_
    refine mm_gA C hM 34 (dd_at td_undo 97 rfl) (by decide) (by decide) (by decide) ?_
    refine lv_iload_n C.1 C.2.1 (dd_at td_undo 98 rfl) rfl (lv_at hl 1 rfl) ?_
    refine lv_aload_n C.1 C.2.1 (dd_at td_undo 99 rfl) rfl (lv_at hl 0 rfl) ?_
    refine mm_gA C hM 53 (dd_at td_undo 100 rfl) (by decide) (by decide) (by decide) ?_
    refine lv_iload_n C.1 C.2.1 (dd_at td_undo 101 rfl) rfl (lv_at hl 1 rfl) ?_
    obtain ⟨g30, hf⟩ := fc_of_gd hf
    refine mm_iald C hM 53 (dd_at td_undo 102 rfl) (by decide) (by decide) (fc_of_ix g30) ?_
    obtain ⟨g31, hf⟩ := fc_of_gd hf
    refine mm_iast C hM 34 (dd_at td_undo 103 rfl) (by decide) (by decide) (fc_of_ix g31) (fun st32 H locs est32 hM => ?_)
    replace hf := fc_of_nm hf st32 est32
    refine lv_aload_n C.1 C.2.1 (dd_at td_undo 104 rfl) rfl (lv_at hl 0 rfl) ?_
    refine mm_gA C hM 35 (dd_at td_undo 105 rfl) (by decide) (by decide) (by decide) ?_
    refine lv_iload_n C.1 C.2.1 (dd_at td_undo 106 rfl) rfl (lv_at hl 1 rfl) ?_
    refine lv_aload_n C.1 C.2.1 (dd_at td_undo 107 rfl) rfl (lv_at hl 0 rfl) ?_
    refine mm_gA C hM 54 (dd_at td_undo 108 rfl) (by decide) (by decide) (by decide) ?_
    refine lv_iload_n C.1 C.2.1 (dd_at td_undo 109 rfl) rfl (lv_at hl 1 rfl) ?_
    obtain ⟨g33, hf⟩ := fc_of_gd hf
    refine mm_iald C hM 54 (dd_at td_undo 110 rfl) (by decide) (by decide) (fc_of_ix g33) ?_
    obtain ⟨g34, hf⟩ := fc_of_gd hf
    refine mm_iast C hM 35 (dd_at td_undo 111 rfl) (by decide) (by decide) (fc_of_ix g34) (fun st35 H locs est35 hM => ?_)
    replace hf := fc_of_nm hf st35 est35
    obtain ⟨v36, ev36⟩ : ∃ y : Int32, y = x1 + (1 : Int32) := ⟨_, rfl⟩
    replace hf := fc_of_nm hf v36 ev36
    refine lv_iinc (v := v36) (lv' := [(1, .int v36), (0, .ref o)]) C.1 C.2.1 (dd_at td_undo 112 rfl) hl (k := 1) rfl (by rw [ev36]; rfl) (by decide) rfl (fun ls hl => ?_)
    refine lv_goto (tgt := 152) C.1 C.2.1 (dd_at td_undo 113 rfl) (by decide) ?_
    exact hK152 v36 st35 _ _ _ hf (lv_sub hl [1, 0] rfl) hM
theorem w_undo_b152 {p : Program} {l : Launch} {e : Env} {s : State} {m : MethodId} {args : Array Value} {below : List Frame} {meth : Method} {c : Code} {D : va_G} {o : Nat} {ad : Nat → Nat} {cs : ClassId × ClassId × ClassId} {r : Int32} {st' : mm_S} (C : mm_C p s m args meth c cX12_undo 2 (some .int) D cs) (fu : Nat) (n : Nat) : ∀ (x1 : Int32) (st : mm_S), M_undo_b152 fu n x1 st = some (r, st') → ∀ (H : Heap) (locs : List Loc) (ls : Array Slot), lv_has ls 2 [(0, .ref o), (1, .int x1)] → mm_H D o ad cs s.heap st H locs → W p l e (mm_R 0 0) s m args below meth c H locs 0 0 (MQ below (mm_Qi D o ad cs r st') args s 0 0 (mm_A o ad)) (F0 m 152 ls []) := by
  induction n with
  | zero => exact fun _ _ hf => fc_no hf
  | succ n ih =>
    intro x1 st hf H locs ls hl hM
    exact w_undo_b152F C fu (fun x1 st => M_undo_b152 fu n x1 st) (fun x1 st H locs ls hf hl hM => ih x1 st hf H locs ls hl hM) x1 st hf hl hM
theorem w_undo_b126F {p : Program} {l : Launch} {e : Env} {s : State} {m : MethodId} {args : Array Value} {below : List Frame} {meth : Method} {c : Code} {D : va_G} {o : Nat} {ad : Nat → Nat} {cs : ClassId × ClassId × ClassId} {r : Int32} {st' : mm_S} (C : mm_C p s m args meth c cX12_undo 2 (some .int) D cs) (fu : Nat) (K126 : Int32 → mm_S → Option (Int32 × mm_S)) (hK126 : ∀ (x1 : Int32) (st : mm_S) (H : Heap) (locs : List Loc) (ls : Array Slot), K126 x1 st = some (r, st') → lv_has ls 2 [(0, .ref o), (1, .int x1)] → mm_H D o ad cs s.heap st H locs → W p l e (mm_R 0 0) s m args below meth c H locs 0 0 (MQ below (mm_Qi D o ad cs r st') args s 0 0 (mm_A o ad)) (F0 m 126 ls [])) (x1 : Int32) (st : mm_S) (hf : M_undo_b126F fu K126 x1 st = some (r, st')) {H : Heap} {locs : List Loc} {ls : Array Slot} (hl : lv_has ls 2 [(0, .ref o), (1, .int x1)]) (hM : mm_H D o ad cs s.heap st H locs) : W p l e (mm_R 0 0) s m args below meth c H locs 0 0 (MQ below (mm_Qi D o ad cs r st') args s 0 0 (mm_A o ad)) (F0 m 126 ls []) := by
  unfold M_undo_b126F at hf
  refine lv_iload_n C.1 C.2.1 (dd_at td_undo 70 rfl) rfl (lv_at hl 1 rfl) ?_
  refine lv_bipush (v := (24 : Int32)) C.1 C.2.1 (dd_at td_undo 71 rfl) (by decide) ?_
  refine lv_icmp_ge (tgt := 150) C.1 C.2.1 (dd_at td_undo 72 rfl) (by decide) (fun c21 => ?_) (fun c21 => ?_)
  · replace hf := fc_of_t hf c21
    refine lv_iconst (v := (0 : Int32)) C.1 C.2.1 (dd_at td_undo 83 rfl) (by decide) ?_
    refine lv_istore_n (lv' := [(1, .int (0 : Int32)), (0, .ref o)]) C.1 C.2.1 (dd_at td_undo 84 rfl) rfl hl (by decide) rfl (fun ls hl => ?_)
    exact w_undo_b152 C fu fu (0 : Int32) st hf _ _ _ (lv_sub hl [1, 0] rfl) hM
  · replace hf := fc_of_f hf c21
    refine lv_aload_n C.1 C.2.1 (dd_at td_undo 73 rfl) rfl (lv_at hl 0 rfl) ?_
    refine mm_gA C hM 7 (dd_at td_undo 74 rfl) (by decide) (by decide) (by decide) ?_
    refine lv_iload_n C.1 C.2.1 (dd_at td_undo 75 rfl) rfl (lv_at hl 1 rfl) ?_
    refine lv_aload_n C.1 C.2.1 (dd_at td_undo 76 rfl) rfl (lv_at hl 0 rfl) ?_
    refine mm_gA C hM 50 (dd_at td_undo 77 rfl) (by decide) (by decide) (by decide) ?_
    refine lv_iload_n C.1 C.2.1 (dd_at td_undo 78 rfl) rfl (lv_at hl 1 rfl) ?_
    obtain ⟨g22, hf⟩ := fc_of_gd hf
    refine mm_iald C hM 50 (dd_at td_undo 79 rfl) (by decide) (by decide) (fc_of_ix g22) ?_
    obtain ⟨g23, hf⟩ := fc_of_gd hf
    refine mm_iast C hM 7 (dd_at td_undo 80 rfl) (by decide) (by decide) (fc_of_ix g23) (fun st24 H locs est24 hM => ?_)
    replace hf := fc_of_nm hf st24 est24
    obtain ⟨v25, ev25⟩ : ∃ y : Int32, y = x1 + (1 : Int32) := ⟨_, rfl⟩
    replace hf := fc_of_nm hf v25 ev25
    refine lv_iinc (v := v25) (lv' := [(1, .int v25), (0, .ref o)]) C.1 C.2.1 (dd_at td_undo 81 rfl) hl (k := 1) rfl (by rw [ev25]; rfl) (by decide) rfl (fun ls hl => ?_)
    refine lv_goto (tgt := 126) C.1 C.2.1 (dd_at td_undo 82 rfl) (by decide) ?_
    exact hK126 v25 st24 _ _ _ hf (lv_sub hl [1, 0] rfl) hM
theorem w_undo_b126 {p : Program} {l : Launch} {e : Env} {s : State} {m : MethodId} {args : Array Value} {below : List Frame} {meth : Method} {c : Code} {D : va_G} {o : Nat} {ad : Nat → Nat} {cs : ClassId × ClassId × ClassId} {r : Int32} {st' : mm_S} (C : mm_C p s m args meth c cX12_undo 2 (some .int) D cs) (fu : Nat) (n : Nat) : ∀ (x1 : Int32) (st : mm_S), M_undo_b126 fu n x1 st = some (r, st') → ∀ (H : Heap) (locs : List Loc) (ls : Array Slot), lv_has ls 2 [(0, .ref o), (1, .int x1)] → mm_H D o ad cs s.heap st H locs → W p l e (mm_R 0 0) s m args below meth c H locs 0 0 (MQ below (mm_Qi D o ad cs r st') args s 0 0 (mm_A o ad)) (F0 m 126 ls []) := by
  induction n with
  | zero => exact fun _ _ hf => fc_no hf
  | succ n ih =>
    intro x1 st hf H locs ls hl hM
    exact w_undo_b126F C fu (fun x1 st => M_undo_b126 fu n x1 st) (fun x1 st H locs ls hf hl hM => ih x1 st hf H locs ls hl hM) x1 st hf hl hM
theorem w_undo_b76F {p : Program} {l : Launch} {e : Env} {s : State} {m : MethodId} {args : Array Value} {below : List Frame} {meth : Method} {c : Code} {D : va_G} {o : Nat} {ad : Nat → Nat} {cs : ClassId × ClassId × ClassId} {r : Int32} {st' : mm_S} (C : mm_C p s m args meth c cX12_undo 2 (some .int) D cs) (fu : Nat) (K76 : Int32 → mm_S → Option (Int32 × mm_S)) (hK76 : ∀ (x1 : Int32) (st : mm_S) (H : Heap) (locs : List Loc) (ls : Array Slot), K76 x1 st = some (r, st') → lv_has ls 2 [(0, .ref o), (1, .int x1)] → mm_H D o ad cs s.heap st H locs → W p l e (mm_R 0 0) s m args below meth c H locs 0 0 (MQ below (mm_Qi D o ad cs r st') args s 0 0 (mm_A o ad)) (F0 m 76 ls [])) (x1 : Int32) (st : mm_S) (hf : M_undo_b76F fu K76 x1 st = some (r, st')) {H : Heap} {locs : List Loc} {ls : Array Slot} (hl : lv_has ls 2 [(0, .ref o), (1, .int x1)]) (hM : mm_H D o ad cs s.heap st H locs) : W p l e (mm_R 0 0) s m args below meth c H locs 0 0 (MQ below (mm_Qi D o ad cs r st') args s 0 0 (mm_A o ad)) (F0 m 76 ls []) := by
  unfold M_undo_b76F at hf
  refine lv_iload_n C.1 C.2.1 (dd_at td_undo 39 rfl) rfl (lv_at hl 1 rfl) ?_
  refine lv_bipush (v := (6 : Int32)) C.1 C.2.1 (dd_at td_undo 40 rfl) (by decide) ?_
  refine lv_icmp_ge (tgt := 124) C.1 C.2.1 (dd_at td_undo 41 rfl) (by decide) (fun c10 => ?_) (fun c10 => ?_)
  · replace hf := fc_of_t hf c10
    refine lv_iconst (v := (0 : Int32)) C.1 C.2.1 (dd_at td_undo 68 rfl) (by decide) ?_
    refine lv_istore_n (lv' := [(1, .int (0 : Int32)), (0, .ref o)]) C.1 C.2.1 (dd_at td_undo 69 rfl) rfl hl (by decide) rfl (fun ls hl => ?_)
    exact w_undo_b126 C fu fu (0 : Int32) st hf _ _ _ (lv_sub hl [1, 0] rfl) hM
  · replace hf := fc_of_f hf c10
    refine lv_aload_n C.1 C.2.1 (dd_at td_undo 42 rfl) rfl (lv_at hl 0 rfl) ?_
    refine mm_gA C hM 4 (dd_at td_undo 43 rfl) (by decide) (by decide) (by decide) ?_
    refine lv_iload_n C.1 C.2.1 (dd_at td_undo 44 rfl) rfl (lv_at hl 1 rfl) ?_
    refine lv_aload_n C.1 C.2.1 (dd_at td_undo 45 rfl) rfl (lv_at hl 0 rfl) ?_
    refine mm_gA C hM 47 (dd_at td_undo 46 rfl) (by decide) (by decide) (by decide) ?_
    refine lv_iload_n C.1 C.2.1 (dd_at td_undo 47 rfl) rfl (lv_at hl 1 rfl) ?_
    obtain ⟨g11, hf⟩ := fc_of_gd hf
    refine mm_iald C hM 47 (dd_at td_undo 48 rfl) (by decide) (by decide) (fc_of_ix g11) ?_
    obtain ⟨g12, hf⟩ := fc_of_gd hf
    refine mm_iast C hM 4 (dd_at td_undo 49 rfl) (by decide) (by decide) (fc_of_ix g12) (fun st13 H locs est13 hM => ?_)
    replace hf := fc_of_nm hf st13 est13
    refine lv_aload_n C.1 C.2.1 (dd_at td_undo 50 rfl) rfl (lv_at hl 0 rfl) ?_
    refine mm_gA C hM 5 (dd_at td_undo 51 rfl) (by decide) (by decide) (by decide) ?_
    refine lv_iload_n C.1 C.2.1 (dd_at td_undo 52 rfl) rfl (lv_at hl 1 rfl) ?_
    refine lv_aload_n C.1 C.2.1 (dd_at td_undo 53 rfl) rfl (lv_at hl 0 rfl) ?_
    refine mm_gA C hM 48 (dd_at td_undo 54 rfl) (by decide) (by decide) (by decide) ?_
    refine lv_iload_n C.1 C.2.1 (dd_at td_undo 55 rfl) rfl (lv_at hl 1 rfl) ?_
    obtain ⟨g14, hf⟩ := fc_of_gd hf
    refine mm_iald C hM 48 (dd_at td_undo 56 rfl) (by decide) (by decide) (fc_of_ix g14) ?_
    obtain ⟨g15, hf⟩ := fc_of_gd hf
    refine mm_iast C hM 5 (dd_at td_undo 57 rfl) (by decide) (by decide) (fc_of_ix g15) (fun st16 H locs est16 hM => ?_)
    replace hf := fc_of_nm hf st16 est16
    refine lv_aload_n C.1 C.2.1 (dd_at td_undo 58 rfl) rfl (lv_at hl 0 rfl) ?_
    refine mm_gA C hM 6 (dd_at td_undo 59 rfl) (by decide) (by decide) (by decide) ?_
    refine lv_iload_n C.1 C.2.1 (dd_at td_undo 60 rfl) rfl (lv_at hl 1 rfl) ?_
    refine lv_aload_n C.1 C.2.1 (dd_at td_undo 61 rfl) rfl (lv_at hl 0 rfl) ?_
    refine mm_gA C hM 49 (dd_at td_undo 62 rfl) (by decide) (by decide) (by decide) ?_
    refine lv_iload_n C.1 C.2.1 (dd_at td_undo 63 rfl) rfl (lv_at hl 1 rfl) ?_
    obtain ⟨g17, hf⟩ := fc_of_gd hf
    refine mm_iald C hM 49 (dd_at td_undo 64 rfl) (by decide) (by decide) (fc_of_ix g17) ?_
    obtain ⟨g18, hf⟩ := fc_of_gd hf
    refine mm_iast C hM 6 (dd_at td_undo 65 rfl) (by decide) (by decide) (fc_of_ix g18) (fun st19 H locs est19 hM => ?_)
    replace hf := fc_of_nm hf st19 est19
    obtain ⟨v20, ev20⟩ : ∃ y : Int32, y = x1 + (1 : Int32) := ⟨_, rfl⟩
    replace hf := fc_of_nm hf v20 ev20
    refine lv_iinc (v := v20) (lv' := [(1, .int v20), (0, .ref o)]) C.1 C.2.1 (dd_at td_undo 66 rfl) hl (k := 1) rfl (by rw [ev20]; rfl) (by decide) rfl (fun ls hl => ?_)
    refine lv_goto (tgt := 76) C.1 C.2.1 (dd_at td_undo 67 rfl) (by decide) ?_
    exact hK76 v20 st19 _ _ _ hf (lv_sub hl [1, 0] rfl) hM
theorem w_undo_b76 {p : Program} {l : Launch} {e : Env} {s : State} {m : MethodId} {args : Array Value} {below : List Frame} {meth : Method} {c : Code} {D : va_G} {o : Nat} {ad : Nat → Nat} {cs : ClassId × ClassId × ClassId} {r : Int32} {st' : mm_S} (C : mm_C p s m args meth c cX12_undo 2 (some .int) D cs) (fu : Nat) (n : Nat) : ∀ (x1 : Int32) (st : mm_S), M_undo_b76 fu n x1 st = some (r, st') → ∀ (H : Heap) (locs : List Loc) (ls : Array Slot), lv_has ls 2 [(0, .ref o), (1, .int x1)] → mm_H D o ad cs s.heap st H locs → W p l e (mm_R 0 0) s m args below meth c H locs 0 0 (MQ below (mm_Qi D o ad cs r st') args s 0 0 (mm_A o ad)) (F0 m 76 ls []) := by
  induction n with
  | zero => exact fun _ _ hf => fc_no hf
  | succ n ih =>
    intro x1 st hf H locs ls hl hM
    exact w_undo_b76F C fu (fun x1 st => M_undo_b76 fu n x1 st) (fun x1 st H locs ls hf hl hM => ih x1 st hf H locs ls hl hM) x1 st hf hl hM
theorem w_undo {p : Program} {l : Launch} {e : Env} {s : State} {m : MethodId} {args : Array Value} {below : List Frame} {meth : Method} {c : Code} {D : va_G} {o : Nat} {ad : Nat → Nat} {cs : ClassId × ClassId × ClassId} {r : Int32} {st' : mm_S} (C : mm_C p s m args meth c cX12_undo 2 (some .int) D cs) (fu : Nat) (st : mm_S) (hf : M_undo fu st = some (r, st')) {H : Heap} {locs : List Loc} {ls : Array Slot} (hl : lv_has ls 2 [(0, .ref o)]) (hM : mm_H D o ad cs s.heap st H locs) : W p l e (mm_R 0 0) s m args below meth c H locs 0 0 (MQ below (mm_Qi D o ad cs r st') args s 0 0 (mm_A o ad)) (F0 m 0 ls []) := by
  unfold M_undo at hf
  refine lv_aload_n C.1 C.2.1 (dd_at td_undo 0 rfl) rfl (lv_at hl 0 rfl) ?_
  refine mm_gI C hM 38 (dd_at td_undo 1 rfl) (by decide) (by decide) (by decide) ?_
  refine lv_if_ne (tgt := 10) C.1 C.2.1 (dd_at td_undo 2 rfl) (by decide) (fun c1 => ?_) (fun c1 => ?_)
  · replace hf := fc_of_f hf c1
    refine lv_aload_n C.1 C.2.1 (dd_at td_undo 5 rfl) rfl (lv_at hl 0 rfl) ?_
    refine lv_aload_n C.1 C.2.1 (dd_at td_undo 6 rfl) rfl (lv_at hl 0 rfl) ?_
    refine mm_gI C hM 39 (dd_at td_undo 7 rfl) (by decide) (by decide) (by decide) ?_
    refine mm_pI C hM 9 (dd_at td_undo 8 rfl) (by decide) (by decide) (by decide) rfl rfl (fun st2 H locs est2 hM => ?_)
    replace hf := fc_of_nm hf st2 est2
    refine lv_aload_n C.1 C.2.1 (dd_at td_undo 9 rfl) rfl (lv_at hl 0 rfl) ?_
    refine lv_aload_n C.1 C.2.1 (dd_at td_undo 10 rfl) rfl (lv_at hl 0 rfl) ?_
    refine mm_gI C hM 40 (dd_at td_undo 11 rfl) (by decide) (by decide) (by decide) ?_
    refine mm_pI C hM 0 (dd_at td_undo 12 rfl) (by decide) (by decide) (by decide) rfl rfl (fun st3 H locs est3 hM => ?_)
    replace hf := fc_of_nm hf st3 est3
    refine lv_aload_n C.1 C.2.1 (dd_at td_undo 13 rfl) rfl (lv_at hl 0 rfl) ?_
    refine lv_aload_n C.1 C.2.1 (dd_at td_undo 14 rfl) rfl (lv_at hl 0 rfl) ?_
    refine mm_gI C hM 41 (dd_at td_undo 15 rfl) (by decide) (by decide) (by decide) ?_
    refine mm_pI C hM 1 (dd_at td_undo 16 rfl) (by decide) (by decide) (by decide) rfl rfl (fun st4 H locs est4 hM => ?_)
    replace hf := fc_of_nm hf st4 est4
    refine lv_aload_n C.1 C.2.1 (dd_at td_undo 17 rfl) rfl (lv_at hl 0 rfl) ?_
    refine lv_aload_n C.1 C.2.1 (dd_at td_undo 18 rfl) rfl (lv_at hl 0 rfl) ?_
    refine mm_gI C hM 42 (dd_at td_undo 19 rfl) (by decide) (by decide) (by decide) ?_
    refine mm_pI C hM 2 (dd_at td_undo 20 rfl) (by decide) (by decide) (by decide) rfl rfl (fun st5 H locs est5 hM => ?_)
    replace hf := fc_of_nm hf st5 est5
    refine lv_aload_n C.1 C.2.1 (dd_at td_undo 21 rfl) rfl (lv_at hl 0 rfl) ?_
    refine lv_aload_n C.1 C.2.1 (dd_at td_undo 22 rfl) rfl (lv_at hl 0 rfl) ?_
    refine mm_gI C hM 43 (dd_at td_undo 23 rfl) (by decide) (by decide) (by decide) ?_
    refine mm_pI C hM 3 (dd_at td_undo 24 rfl) (by decide) (by decide) (by decide) rfl rfl (fun st6 H locs est6 hM => ?_)
    replace hf := fc_of_nm hf st6 est6
    refine lv_aload_n C.1 C.2.1 (dd_at td_undo 25 rfl) rfl (lv_at hl 0 rfl) ?_
    refine lv_aload_n C.1 C.2.1 (dd_at td_undo 26 rfl) rfl (lv_at hl 0 rfl) ?_
    refine mm_gI C hM 44 (dd_at td_undo 27 rfl) (by decide) (by decide) (by decide) ?_
    refine mm_pI C hM 29 (dd_at td_undo 28 rfl) (by decide) (by decide) (by decide) rfl rfl (fun st7 H locs est7 hM => ?_)
    replace hf := fc_of_nm hf st7 est7
    refine lv_aload_n C.1 C.2.1 (dd_at td_undo 29 rfl) rfl (lv_at hl 0 rfl) ?_
    refine lv_aload_n C.1 C.2.1 (dd_at td_undo 30 rfl) rfl (lv_at hl 0 rfl) ?_
    refine mm_gI C hM 45 (dd_at td_undo 31 rfl) (by decide) (by decide) (by decide) ?_
    refine mm_pI C hM 31 (dd_at td_undo 32 rfl) (by decide) (by decide) (by decide) rfl rfl (fun st8 H locs est8 hM => ?_)
    replace hf := fc_of_nm hf st8 est8
    refine lv_aload_n C.1 C.2.1 (dd_at td_undo 33 rfl) rfl (lv_at hl 0 rfl) ?_
    refine lv_aload_n C.1 C.2.1 (dd_at td_undo 34 rfl) rfl (lv_at hl 0 rfl) ?_
    refine mm_gI C hM 46 (dd_at td_undo 35 rfl) (by decide) (by decide) (by decide) ?_
    refine mm_pI C hM 32 (dd_at td_undo 36 rfl) (by decide) (by decide) (by decide) rfl rfl (fun st9 H locs est9 hM => ?_)
    replace hf := fc_of_nm hf st9 est9
    refine lv_iconst (v := (0 : Int32)) C.1 C.2.1 (dd_at td_undo 37 rfl) (by decide) ?_
    refine lv_istore_n (lv' := [(1, .int (0 : Int32)), (0, .ref o)]) C.1 C.2.1 (dd_at td_undo 38 rfl) rfl hl (by decide) rfl (fun ls hl => ?_)
    exact w_undo_b76 C fu fu (0 : Int32) st9 hf _ _ _ (lv_sub hl [1, 0] rfl) hM
  · replace hf := fc_of_t hf c1
    refine lv_bipush (v := (-3 : Int32)) C.1 C.2.1 (dd_at td_undo 3 rfl) (by decide) ?_
    exact mm_ri C hM (dd_at td_undo 4 rfl) hf
theorem c_undo (l : Launch) (D : va_G) (o : Nat) (ad : Nat → Nat) (cs : ClassId × ClassId × ClassId) (fu : Nat) (st : mm_S) : mm_Mi l D o ad cs yX12_undo cX12_undo 2 (some .int) 0 0 [] st (M_undo fu st) := by
  intro r st' hf
  refine mm_enter (cc := cX12_undo) (nL := 2) (ret := some .int) (by decide) rfl (Nat.le_of_ble_eq_true rfl) ?_
  intro p e s m args below meth c ls C hl hM
  exact w_undo C fu st hf hl hM

/-! body -/
def tb_body : List (Nat × Instr × Nat) := [(0, .aload_n 0, 1), (1, .getfield 185, 3), (4, .bipush 20, 2), (6, .if_icmp .ge 13, 3), (9, .aload_n 0, 1), (10, .getfield 188, 3), (13, .aload_n 0, 1), (14, .getfield 185, 3), (17, .iload_n 1, 1), (18, .iastore, 1), (19, .aload_n 0, 1), (20, .dup, 1), (21, .getfield 185, 3), (24, .iconst 1, 1), (25, .iadd, 1), (26, .putfield 185, 3), (29, .return_, 1)]
theorem td_body : tb_body.all (fun q => decide (decode cX12_body q.1 = .ok (q.2.1, q.2.2))) = true := by decide +kernel
theorem hd_body : yX12_body.cls = RX12 ∧ yX12_body.cls ≠ "java/lang/invoke/MethodHandle" ∧ yX12_body.cls ≠ "java/lang/invoke/VarHandle" ∧ (parseMethodDescriptor yX12_body.desc).map (fun d => d.parameters.length) = some 1 := by decide +kernel
theorem w_body_b19 {p : Program} {l : Launch} {e : Env} {s : State} {m : MethodId} {args : Array Value} {below : List Frame} {meth : Method} {c : Code} {D : va_G} {o : Nat} {ad : Nat → Nat} {cs : ClassId × ClassId × ClassId} {st' : mm_S} (C : mm_C p s m args meth c cX12_body 2 (none) D cs) (fu : Nat) (st : mm_S) (hf : M_body_b19 fu st = some st') {H : Heap} {locs : List Loc} {ls : Array Slot} (hl : lv_has ls 2 [(0, .ref o)]) (hM : mm_H D o ad cs s.heap st H locs) : W p l e (mm_R 0 0) s m args below meth c H locs 0 0 (MQ below (mm_Qv D o ad cs st') args s 0 0 (mm_A o ad)) (F0 m 19 ls []) := by
  unfold M_body_b19 at hf
  refine lv_aload_n C.1 C.2.1 (dd_at td_body 10 rfl) rfl (lv_at hl 0 rfl) ?_
  refine lv_dup C.1 C.2.1 (dd_at td_body 11 rfl) rfl ?_
  refine mm_gI C hM 57 (dd_at td_body 12 rfl) (by decide) (by decide) (by decide) ?_
  refine lv_iconst (v := (1 : Int32)) C.1 C.2.1 (dd_at td_body 13 rfl) (by decide) ?_
  refine lv_iadd C.1 C.2.1 (dd_at td_body 14 rfl) ?_
  refine mm_pI C hM 57 (dd_at td_body 15 rfl) (by decide) (by decide) (by decide) rfl rfl (fun st4 H locs est4 hM => ?_)
  replace hf := fc_of_nm hf st4 est4
  exact mm_rv C hM (dd_at td_body 16 rfl) hf
theorem w_body {p : Program} {l : Launch} {e : Env} {s : State} {m : MethodId} {args : Array Value} {below : List Frame} {meth : Method} {c : Code} {D : va_G} {o : Nat} {ad : Nat → Nat} {cs : ClassId × ClassId × ClassId} {st' : mm_S} (C : mm_C p s m args meth c cX12_body 2 (none) D cs) (fu : Nat) (x1 : Int32) (st : mm_S) (hf : M_body fu x1 st = some st') {H : Heap} {locs : List Loc} {ls : Array Slot} (hl : lv_has ls 2 [(0, .ref o), (1, .int x1)]) (hM : mm_H D o ad cs s.heap st H locs) : W p l e (mm_R 0 0) s m args below meth c H locs 0 0 (MQ below (mm_Qv D o ad cs st') args s 0 0 (mm_A o ad)) (F0 m 0 ls []) := by
  unfold M_body at hf
  refine lv_aload_n C.1 C.2.1 (dd_at td_body 0 rfl) rfl (lv_at hl 0 rfl) ?_
  refine mm_gI C hM 57 (dd_at td_body 1 rfl) (by decide) (by decide) (by decide) ?_
  refine lv_bipush (v := (20 : Int32)) C.1 C.2.1 (dd_at td_body 2 rfl) (by decide) ?_
  refine lv_icmp_ge (tgt := 19) C.1 C.2.1 (dd_at td_body 3 rfl) (by decide) (fun c1 => ?_) (fun c1 => ?_)
  · replace hf := fc_of_t hf c1
    exact w_body_b19 C fu st hf (lv_sub hl [0] rfl) hM
  · replace hf := fc_of_f hf c1
    refine lv_aload_n C.1 C.2.1 (dd_at td_body 4 rfl) rfl (lv_at hl 0 rfl) ?_
    refine mm_gA C hM 58 (dd_at td_body 5 rfl) (by decide) (by decide) (by decide) ?_
    refine lv_aload_n C.1 C.2.1 (dd_at td_body 6 rfl) rfl (lv_at hl 0 rfl) ?_
    refine mm_gI C hM 57 (dd_at td_body 7 rfl) (by decide) (by decide) (by decide) ?_
    refine lv_iload_n C.1 C.2.1 (dd_at td_body 8 rfl) rfl (lv_at hl 1 rfl) ?_
    obtain ⟨g2, hf⟩ := fc_of_gd hf
    refine mm_iast C hM 58 (dd_at td_body 9 rfl) (by decide) (by decide) (fc_of_ix g2) (fun st3 H locs est3 hM => ?_)
    replace hf := fc_of_nm hf st3 est3
    exact w_body_b19 C fu st3 hf (lv_sub hl [0] rfl) hM
theorem c_body (l : Launch) (D : va_G) (o : Nat) (ad : Nat → Nat) (cs : ClassId × ClassId × ClassId) (fu : Nat) (x1 : Int32) (st : mm_S) : mm_Mv l D o ad cs yX12_body cX12_body 2 (none) 0 0 [.int x1] st (M_body fu x1 st) := by
  intro st' hf
  refine mm_enter (cc := cX12_body) (nL := 2) (ret := none) (by decide) rfl (Nat.le_of_ble_eq_true rfl) ?_
  intro p e s m args below meth c ls C hl hM
  exact w_body C fu x1 st hf hl hM

/-! needDarkens -/
def tb_needDarkens : List (Nat × Instr × Nat) := [(0, .aload_n 0, 1), (1, .bipush 10, 2), (3, .invokevirtual 346, 3), (6, .iload_n 2, 1), (7, .iload_n 1, 1), (8, .iadd, 1), (9, .ireturn, 1)]
theorem td_needDarkens : tb_needDarkens.all (fun q => decide (decode cX12_needDarkens q.1 = .ok (q.2.1, q.2.2))) = true := by decide +kernel
theorem hd_needDarkens : yX12_needDarkens.cls = RX12 ∧ yX12_needDarkens.cls ≠ "java/lang/invoke/MethodHandle" ∧ yX12_needDarkens.cls ≠ "java/lang/invoke/VarHandle" ∧ (parseMethodDescriptor yX12_needDarkens.desc).map (fun d => d.parameters.length) = some 2 := by decide +kernel
theorem w_needDarkens {p : Program} {l : Launch} {e : Env} {s : State} {m : MethodId} {args : Array Value} {below : List Frame} {meth : Method} {c : Code} {D : va_G} {o : Nat} {ad : Nat → Nat} {cs : ClassId × ClassId × ClassId} {r : Int32} {st' : mm_S} (C : mm_C p s m args meth c cX12_needDarkens 3 (some .int) D cs) (fu : Nat) (x1 : Int32) (x2 : Int32) (st : mm_S) (hf : M_needDarkens fu x1 x2 st = some (r, st')) {H : Heap} {locs : List Loc} {ls : Array Slot} (hl : lv_has ls 3 [(0, .ref o), (1, .int x1), (2, .int x2)]) (hM : mm_H D o ad cs s.heap st H locs) : W p l e (mm_R 1 21) s m args below meth c H locs 0 0 (MQ below (mm_Qi D o ad cs r st') args s 0 0 (mm_A o ad)) (F0 m 0 ls []) := by
  unfold M_needDarkens at hf
  refine lv_aload_n C.1 C.2.1 (dd_at td_needDarkens 0 rfl) rfl (lv_at hl 0 rfl) ?_
  refine lv_bipush (v := (10 : Int32)) C.1 C.2.1 (dd_at td_needDarkens 1 rfl) (by decide) ?_
  obtain ⟨st1, hx2, hf⟩ := fc_of_bv hf
  refine mm_cv (As := [.int (10 : Int32)]) (rest := []) (n := 1) C hM (c_body l D o ad cs fu (10 : Int32) st) (List.mem_of_getElem? (i := 5) rfl) (dd_at td_needDarkens 2 rfl) hx2 hl.1 hd_body ⟨Nat.le_of_ble_eq_true rfl, Nat.le_of_ble_eq_true rfl⟩ rfl rfl (Nat.le_of_ble_eq_true rfl) ⟨Nat.le_refl 0, Nat.le_refl 0⟩ (fun H locs hM => ?_)
  refine lv_iload_n C.1 C.2.1 (dd_at td_needDarkens 3 rfl) rfl (lv_at hl 2 rfl) ?_
  refine lv_iload_n C.1 C.2.1 (dd_at td_needDarkens 4 rfl) rfl (lv_at hl 1 rfl) ?_
  refine lv_iadd C.1 C.2.1 (dd_at td_needDarkens 5 rfl) ?_
  exact mm_ri C hM (dd_at td_needDarkens 6 rfl) hf
theorem c_needDarkens (l : Launch) (D : va_G) (o : Nat) (ad : Nat → Nat) (cs : ClassId × ClassId × ClassId) (fu : Nat) (x1 : Int32) (x2 : Int32) (st : mm_S) : mm_Mi l D o ad cs yX12_needDarkens cX12_needDarkens 3 (some .int) 1 21 [.int x1, .int x2] st (M_needDarkens fu x1 x2 st) := by
  intro r st' hf
  refine mm_enter (cc := cX12_needDarkens) (nL := 3) (ret := some .int) (by decide) rfl (Nat.le_of_ble_eq_true rfl) ?_
  intro p e s m args below meth c ls C hl hM
  exact w_needDarkens C fu x1 x2 st hf hl hM

/-! darkensAct -/
def tb_darkensAct : List (Nat × Instr × Nat) := [(0, .aload_n 0, 1), (1, .getfield 22, 3), (4, .iload_n 1, 1), (5, .iaload, 1), (6, .tableswitch 83 2 6 #[34, 83, 49, 34, 63], 34), (40, .aload_n 0, 1), (41, .bipush 30, 2), (43, .invokevirtual 346, 3), (46, .aload_n 0, 1), (47, .iload_n 1, 1), (48, .iload_n 2, 1), (49, .iconst 3, 1), (50, .imul, 1), (51, .invokevirtual 349, 3), (54, .ireturn, 1), (55, .aload_n 0, 1), (56, .bipush 50, 2), (58, .invokevirtual 346, 3), (61, .aload_n 0, 1), (62, .iload_n 1, 1), (63, .iload_n 2, 1), (64, .invokevirtual 349, 3), (67, .ineg, 1), (68, .ireturn, 1), (69, .aload_n 0, 1), (70, .bipush 71, 2), (72, .invokevirtual 346, 3), (75, .aload_n 0, 1), (76, .iload_n 1, 1), (77, .iload_n 2, 1), (78, .invokevirtual 349, 3), (81, .aload_n 0, 1), (82, .getfield 26, 3), (85, .iload_n 1, 1), (86, .iaload, 1), (87, .ixor, 1), (88, .ireturn, 1), (89, .aload_n 0, 1), (90, .iload_n 1, 1), (91, .iload_n 2, 1), (92, .invokevirtual 349, 3), (95, .ireturn, 1)]
theorem td_darkensAct : tb_darkensAct.all (fun q => decide (decode cX12_darkensAct q.1 = .ok (q.2.1, q.2.2))) = true := by decide +kernel
theorem hd_darkensAct : yX12_darkensAct.cls = RX12 ∧ yX12_darkensAct.cls ≠ "java/lang/invoke/MethodHandle" ∧ yX12_darkensAct.cls ≠ "java/lang/invoke/VarHandle" ∧ (parseMethodDescriptor yX12_darkensAct.desc).map (fun d => d.parameters.length) = some 2 := by decide +kernel
theorem w_darkensAct_b40 {p : Program} {l : Launch} {e : Env} {s : State} {m : MethodId} {args : Array Value} {below : List Frame} {meth : Method} {c : Code} {D : va_G} {o : Nat} {ad : Nat → Nat} {cs : ClassId × ClassId × ClassId} {r : Int32} {st' : mm_S} (C : mm_C p s m args meth c cX12_darkensAct 3 (some .int) D cs) (fu : Nat) (x1 : Int32) (x2 : Int32) (st : mm_S) (hf : M_darkensAct_b40 fu x1 x2 st = some (r, st')) {H : Heap} {locs : List Loc} {ls : Array Slot} (hl : lv_has ls 3 [(0, .ref o), (1, .int x1), (2, .int x2)]) (hM : mm_H D o ad cs s.heap st H locs) : W p l e (mm_R 2 43) s m args below meth c H locs 0 0 (MQ below (mm_Qi D o ad cs r st') args s 0 0 (mm_A o ad)) (F0 m 40 ls []) := by
  unfold M_darkensAct_b40 at hf
  refine lv_aload_n C.1 C.2.1 (dd_at td_darkensAct 5 rfl) rfl (lv_at hl 0 rfl) ?_
  refine lv_bipush (v := (30 : Int32)) C.1 C.2.1 (dd_at td_darkensAct 6 rfl) (by decide) ?_
  obtain ⟨st19, hx20, hf⟩ := fc_of_bv hf
  refine mm_cv (As := [.int (30 : Int32)]) (rest := []) (n := 1) C hM (c_body l D o ad cs fu (30 : Int32) st) (List.mem_of_getElem? (i := 5) rfl) (dd_at td_darkensAct 7 rfl) hx20 hl.1 hd_body ⟨Nat.le_of_ble_eq_true rfl, Nat.le_of_ble_eq_true rfl⟩ rfl rfl (Nat.le_of_ble_eq_true rfl) ⟨Nat.le_refl 0, Nat.le_refl 0⟩ (fun H locs hM => ?_)
  refine lv_aload_n C.1 C.2.1 (dd_at td_darkensAct 8 rfl) rfl (lv_at hl 0 rfl) ?_
  refine lv_iload_n C.1 C.2.1 (dd_at td_darkensAct 9 rfl) rfl (lv_at hl 1 rfl) ?_
  refine lv_iload_n C.1 C.2.1 (dd_at td_darkensAct 10 rfl) rfl (lv_at hl 2 rfl) ?_
  refine lv_iconst (v := (3 : Int32)) C.1 C.2.1 (dd_at td_darkensAct 11 rfl) (by decide) ?_
  refine lv_imul C.1 C.2.1 (dd_at td_darkensAct 12 rfl) ?_
  obtain ⟨r23, st21, hx22, hf⟩ := fc_of_bn hf
  refine mm_ci (As := [.int x1, .int (x2 * (3 : Int32))]) (rest := []) (n := 2) C hM (c_needDarkens l D o ad cs fu x1 (x2 * (3 : Int32)) st19) (List.mem_of_getElem? (i := 30) rfl) (dd_at td_darkensAct 13 rfl) hx22 hl.1 hd_needDarkens ⟨Nat.le_of_ble_eq_true rfl, Nat.le_of_ble_eq_true rfl⟩ rfl rfl (Nat.le_of_ble_eq_true rfl) ⟨Nat.le_refl 0, Nat.le_refl 0⟩ (fun H locs hM => ?_)
  exact mm_ri C hM (dd_at td_darkensAct 14 rfl) hf
theorem w_darkensAct_b89 {p : Program} {l : Launch} {e : Env} {s : State} {m : MethodId} {args : Array Value} {below : List Frame} {meth : Method} {c : Code} {D : va_G} {o : Nat} {ad : Nat → Nat} {cs : ClassId × ClassId × ClassId} {r : Int32} {st' : mm_S} (C : mm_C p s m args meth c cX12_darkensAct 3 (some .int) D cs) (fu : Nat) (x1 : Int32) (x2 : Int32) (st : mm_S) (hf : M_darkensAct_b89 fu x1 x2 st = some (r, st')) {H : Heap} {locs : List Loc} {ls : Array Slot} (hl : lv_has ls 3 [(0, .ref o), (1, .int x1), (2, .int x2)]) (hM : mm_H D o ad cs s.heap st H locs) : W p l e (mm_R 2 43) s m args below meth c H locs 0 0 (MQ below (mm_Qi D o ad cs r st') args s 0 0 (mm_A o ad)) (F0 m 89 ls []) := by
  unfold M_darkensAct_b89 at hf
  refine lv_aload_n C.1 C.2.1 (dd_at td_darkensAct 37 rfl) rfl (lv_at hl 0 rfl) ?_
  refine lv_iload_n C.1 C.2.1 (dd_at td_darkensAct 38 rfl) rfl (lv_at hl 1 rfl) ?_
  refine lv_iload_n C.1 C.2.1 (dd_at td_darkensAct 39 rfl) rfl (lv_at hl 2 rfl) ?_
  obtain ⟨r26, st24, hx25, hf⟩ := fc_of_bn hf
  refine mm_ci (As := [.int x1, .int x2]) (rest := []) (n := 2) C hM (c_needDarkens l D o ad cs fu x1 x2 st) (List.mem_of_getElem? (i := 30) rfl) (dd_at td_darkensAct 40 rfl) hx25 hl.1 hd_needDarkens ⟨Nat.le_of_ble_eq_true rfl, Nat.le_of_ble_eq_true rfl⟩ rfl rfl (Nat.le_of_ble_eq_true rfl) ⟨Nat.le_refl 0, Nat.le_refl 0⟩ (fun H locs hM => ?_)
  exact mm_ri C hM (dd_at td_darkensAct 41 rfl) hf
theorem w_darkensAct {p : Program} {l : Launch} {e : Env} {s : State} {m : MethodId} {args : Array Value} {below : List Frame} {meth : Method} {c : Code} {D : va_G} {o : Nat} {ad : Nat → Nat} {cs : ClassId × ClassId × ClassId} {r : Int32} {st' : mm_S} (C : mm_C p s m args meth c cX12_darkensAct 3 (some .int) D cs) (fu : Nat) (x1 : Int32) (x2 : Int32) (st : mm_S) (hf : M_darkensAct fu x1 x2 st = some (r, st')) {H : Heap} {locs : List Loc} {ls : Array Slot} (hl : lv_has ls 3 [(0, .ref o), (1, .int x1), (2, .int x2)]) (hM : mm_H D o ad cs s.heap st H locs) : W p l e (mm_R 2 43) s m args below meth c H locs 0 0 (MQ below (mm_Qi D o ad cs r st') args s 0 0 (mm_A o ad)) (F0 m 0 ls []) := by
  unfold M_darkensAct at hf
  refine lv_aload_n C.1 C.2.1 (dd_at td_darkensAct 0 rfl) rfl (lv_at hl 0 rfl) ?_
  refine mm_gA C hM 4 (dd_at td_darkensAct 1 rfl) (by decide) (by decide) (by decide) ?_
  refine lv_iload_n C.1 C.2.1 (dd_at td_darkensAct 2 rfl) rfl (lv_at hl 1 rfl) ?_
  obtain ⟨g1, hf⟩ := fc_of_gd hf
  refine mm_iald C hM 4 (dd_at td_darkensAct 3 rfl) (by decide) (by decide) (fc_of_ix g1) ?_
  refine lv_topi (fun v2 ev2 => ?_)
  replace hf := fc_of_nm hf v2 ev2
  by_cases c3 : v2 = (2 : Int32)
  · replace hf := fc_of_t hf c3
    refine lv_tableIn (off := 34) (tgt := 40) C.1 C.2.1 (dd_at td_darkensAct 4 rfl) (by rw [c3]; decide) (by rw [c3]; decide) (by rw [c3]; decide) (by decide) ?_
    exact w_darkensAct_b40 C fu x1 x2 st hf (lv_sub hl [0, 1, 2] rfl) hM
  · replace hf := fc_of_f hf c3
    by_cases c4 : v2 = (3 : Int32)
    · replace hf := fc_of_t hf c4
      refine lv_tableIn (off := 83) (tgt := 89) C.1 C.2.1 (dd_at td_darkensAct 4 rfl) (by rw [c4]; decide) (by rw [c4]; decide) (by rw [c4]; decide) (by decide) ?_
      exact w_darkensAct_b89 C fu x1 x2 st hf (lv_sub hl [0, 1, 2] rfl) hM
    · replace hf := fc_of_f hf c4
      by_cases c5 : v2 = (4 : Int32)
      · replace hf := fc_of_t hf c5
        refine lv_tableIn (off := 49) (tgt := 55) C.1 C.2.1 (dd_at td_darkensAct 4 rfl) (by rw [c5]; decide) (by rw [c5]; decide) (by rw [c5]; decide) (by decide) ?_
        refine lv_aload_n C.1 C.2.1 (dd_at td_darkensAct 15 rfl) rfl (lv_at hl 0 rfl) ?_
        refine lv_bipush (v := (50 : Int32)) C.1 C.2.1 (dd_at td_darkensAct 16 rfl) (by decide) ?_
        obtain ⟨st6, hx7, hf⟩ := fc_of_bv hf
        refine mm_cv (As := [.int (50 : Int32)]) (rest := []) (n := 1) C hM (c_body l D o ad cs fu (50 : Int32) st) (List.mem_of_getElem? (i := 5) rfl) (dd_at td_darkensAct 17 rfl) hx7 hl.1 hd_body ⟨Nat.le_of_ble_eq_true rfl, Nat.le_of_ble_eq_true rfl⟩ rfl rfl (Nat.le_of_ble_eq_true rfl) ⟨Nat.le_refl 0, Nat.le_refl 0⟩ (fun H locs hM => ?_)
        refine lv_aload_n C.1 C.2.1 (dd_at td_darkensAct 18 rfl) rfl (lv_at hl 0 rfl) ?_
        refine lv_iload_n C.1 C.2.1 (dd_at td_darkensAct 19 rfl) rfl (lv_at hl 1 rfl) ?_
        refine lv_iload_n C.1 C.2.1 (dd_at td_darkensAct 20 rfl) rfl (lv_at hl 2 rfl) ?_
        obtain ⟨r10, st8, hx9, hf⟩ := fc_of_bn hf
        refine mm_ci (As := [.int x1, .int x2]) (rest := []) (n := 2) C hM (c_needDarkens l D o ad cs fu x1 x2 st6) (List.mem_of_getElem? (i := 30) rfl) (dd_at td_darkensAct 21 rfl) hx9 hl.1 hd_needDarkens ⟨Nat.le_of_ble_eq_true rfl, Nat.le_of_ble_eq_true rfl⟩ rfl rfl (Nat.le_of_ble_eq_true rfl) ⟨Nat.le_refl 0, Nat.le_refl 0⟩ (fun H locs hM => ?_)
        refine lv_ineg C.1 C.2.1 (dd_at td_darkensAct 22 rfl) ?_
        exact mm_ri C hM (dd_at td_darkensAct 23 rfl) hf
      · replace hf := fc_of_f hf c5
        by_cases c11 : v2 = (5 : Int32)
        · replace hf := fc_of_t hf c11
          refine lv_tableIn (off := 34) (tgt := 40) C.1 C.2.1 (dd_at td_darkensAct 4 rfl) (by rw [c11]; decide) (by rw [c11]; decide) (by rw [c11]; decide) (by decide) ?_
          exact w_darkensAct_b40 C fu x1 x2 st hf (lv_sub hl [0, 1, 2] rfl) hM
        · replace hf := fc_of_f hf c11
          by_cases c12 : v2 = (6 : Int32)
          · replace hf := fc_of_t hf c12
            refine lv_tableIn (off := 63) (tgt := 69) C.1 C.2.1 (dd_at td_darkensAct 4 rfl) (by rw [c12]; decide) (by rw [c12]; decide) (by rw [c12]; decide) (by decide) ?_
            refine lv_aload_n C.1 C.2.1 (dd_at td_darkensAct 24 rfl) rfl (lv_at hl 0 rfl) ?_
            refine lv_bipush (v := (71 : Int32)) C.1 C.2.1 (dd_at td_darkensAct 25 rfl) (by decide) ?_
            obtain ⟨st13, hx14, hf⟩ := fc_of_bv hf
            refine mm_cv (As := [.int (71 : Int32)]) (rest := []) (n := 1) C hM (c_body l D o ad cs fu (71 : Int32) st) (List.mem_of_getElem? (i := 5) rfl) (dd_at td_darkensAct 26 rfl) hx14 hl.1 hd_body ⟨Nat.le_of_ble_eq_true rfl, Nat.le_of_ble_eq_true rfl⟩ rfl rfl (Nat.le_of_ble_eq_true rfl) ⟨Nat.le_refl 0, Nat.le_refl 0⟩ (fun H locs hM => ?_)
            refine lv_aload_n C.1 C.2.1 (dd_at td_darkensAct 27 rfl) rfl (lv_at hl 0 rfl) ?_
            refine lv_iload_n C.1 C.2.1 (dd_at td_darkensAct 28 rfl) rfl (lv_at hl 1 rfl) ?_
            refine lv_iload_n C.1 C.2.1 (dd_at td_darkensAct 29 rfl) rfl (lv_at hl 2 rfl) ?_
            obtain ⟨r17, st15, hx16, hf⟩ := fc_of_bn hf
            refine mm_ci (As := [.int x1, .int x2]) (rest := []) (n := 2) C hM (c_needDarkens l D o ad cs fu x1 x2 st13) (List.mem_of_getElem? (i := 30) rfl) (dd_at td_darkensAct 30 rfl) hx16 hl.1 hd_needDarkens ⟨Nat.le_of_ble_eq_true rfl, Nat.le_of_ble_eq_true rfl⟩ rfl rfl (Nat.le_of_ble_eq_true rfl) ⟨Nat.le_refl 0, Nat.le_refl 0⟩ (fun H locs hM => ?_)
            refine lv_aload_n C.1 C.2.1 (dd_at td_darkensAct 31 rfl) rfl (lv_at hl 0 rfl) ?_
            refine mm_gA C hM 5 (dd_at td_darkensAct 32 rfl) (by decide) (by decide) (by decide) ?_
            refine lv_iload_n C.1 C.2.1 (dd_at td_darkensAct 33 rfl) rfl (lv_at hl 1 rfl) ?_
            obtain ⟨g18, hf⟩ := fc_of_gd hf
            refine mm_iald C hM 5 (dd_at td_darkensAct 34 rfl) (by decide) (by decide) (fc_of_ix g18) ?_
            refine lv_ixor C.1 C.2.1 (dd_at td_darkensAct 35 rfl) ?_
            exact mm_ri C hM (dd_at td_darkensAct 36 rfl) hf
          · replace hf := fc_of_f hf c12
            refine lv_tableOut (tgt := 89) C.1 C.2.1 (dd_at td_darkensAct 4 rfl) (by have q0 := lv_neT c3 (a := 2) (by decide); have q1 := lv_neT c4 (a := 3) (by decide); have q2 := lv_neT c5 (a := 4) (by decide); have q3 := lv_neT c11 (a := 5) (by decide); have q4 := lv_neT c12 (a := 6) (by decide); omega) (by decide) ?_
            exact w_darkensAct_b89 C fu x1 x2 st hf (lv_sub hl [0, 1, 2] rfl) hM
theorem c_darkensAct (l : Launch) (D : va_G) (o : Nat) (ad : Nat → Nat) (cs : ClassId × ClassId × ClassId) (fu : Nat) (x1 : Int32) (x2 : Int32) (st : mm_S) : mm_Mi l D o ad cs yX12_darkensAct cX12_darkensAct 3 (some .int) 2 43 [.int x1, .int x2] st (M_darkensAct fu x1 x2 st) := by
  intro r st' hf
  refine mm_enter (cc := cX12_darkensAct) (nL := 3) (ret := some .int) (by decide) rfl (Nat.le_of_ble_eq_true rfl) ?_
  intro p e s m args below meth c ls C hl hM
  exact w_darkensAct C fu x1 x2 st hf hl hM

/-! needPleads -/
def tb_needPleads : List (Nat × Instr × Nat) := [(0, .aload_n 0, 1), (1, .bipush 11, 2), (3, .invokevirtual 346, 3), (6, .aload_n 0, 1), (7, .iload_n 1, 1), (8, .iload_n 2, 1), (9, .invokevirtual 353, 3), (12, .aload_n 0, 1), (13, .getfield 26, 3), (16, .iload_n 1, 1), (17, .iaload, 1), (18, .isub, 1), (19, .ireturn, 1)]
theorem td_needPleads : tb_needPleads.all (fun q => decide (decode cX12_needPleads q.1 = .ok (q.2.1, q.2.2))) = true := by decide +kernel
theorem hd_needPleads : yX12_needPleads.cls = RX12 ∧ yX12_needPleads.cls ≠ "java/lang/invoke/MethodHandle" ∧ yX12_needPleads.cls ≠ "java/lang/invoke/VarHandle" ∧ (parseMethodDescriptor yX12_needPleads.desc).map (fun d => d.parameters.length) = some 2 := by decide +kernel
theorem w_needPleads {p : Program} {l : Launch} {e : Env} {s : State} {m : MethodId} {args : Array Value} {below : List Frame} {meth : Method} {c : Code} {D : va_G} {o : Nat} {ad : Nat → Nat} {cs : ClassId × ClassId × ClassId} {r : Int32} {st' : mm_S} (C : mm_C p s m args meth c cX12_needPleads 3 (some .int) D cs) (fu : Nat) (x1 : Int32) (x2 : Int32) (st : mm_S) (hf : M_needPleads fu x1 x2 st = some (r, st')) {H : Heap} {locs : List Loc} {ls : Array Slot} (hl : lv_has ls 3 [(0, .ref o), (1, .int x1), (2, .int x2)]) (hM : mm_H D o ad cs s.heap st H locs) : W p l e (mm_R 3 65) s m args below meth c H locs 0 0 (MQ below (mm_Qi D o ad cs r st') args s 0 0 (mm_A o ad)) (F0 m 0 ls []) := by
  unfold M_needPleads at hf
  refine lv_aload_n C.1 C.2.1 (dd_at td_needPleads 0 rfl) rfl (lv_at hl 0 rfl) ?_
  refine lv_bipush (v := (11 : Int32)) C.1 C.2.1 (dd_at td_needPleads 1 rfl) (by decide) ?_
  obtain ⟨st1, hx2, hf⟩ := fc_of_bv hf
  refine mm_cv (As := [.int (11 : Int32)]) (rest := []) (n := 1) C hM (c_body l D o ad cs fu (11 : Int32) st) (List.mem_of_getElem? (i := 5) rfl) (dd_at td_needPleads 2 rfl) hx2 hl.1 hd_body ⟨Nat.le_of_ble_eq_true rfl, Nat.le_of_ble_eq_true rfl⟩ rfl rfl (Nat.le_of_ble_eq_true rfl) ⟨Nat.le_refl 0, Nat.le_refl 0⟩ (fun H locs hM => ?_)
  refine lv_aload_n C.1 C.2.1 (dd_at td_needPleads 3 rfl) rfl (lv_at hl 0 rfl) ?_
  refine lv_iload_n C.1 C.2.1 (dd_at td_needPleads 4 rfl) rfl (lv_at hl 1 rfl) ?_
  refine lv_iload_n C.1 C.2.1 (dd_at td_needPleads 5 rfl) rfl (lv_at hl 2 rfl) ?_
  obtain ⟨r5, st3, hx4, hf⟩ := fc_of_bn hf
  refine mm_ci (As := [.int x1, .int x2]) (rest := []) (n := 2) C hM (c_darkensAct l D o ad cs fu x1 x2 st1) (List.mem_of_getElem? (i := 6) rfl) (dd_at td_needPleads 6 rfl) hx4 hl.1 hd_darkensAct ⟨Nat.le_of_ble_eq_true rfl, Nat.le_of_ble_eq_true rfl⟩ rfl rfl (Nat.le_of_ble_eq_true rfl) ⟨Nat.le_refl 0, Nat.le_refl 0⟩ (fun H locs hM => ?_)
  refine lv_aload_n C.1 C.2.1 (dd_at td_needPleads 7 rfl) rfl (lv_at hl 0 rfl) ?_
  refine mm_gA C hM 5 (dd_at td_needPleads 8 rfl) (by decide) (by decide) (by decide) ?_
  refine lv_iload_n C.1 C.2.1 (dd_at td_needPleads 9 rfl) rfl (lv_at hl 1 rfl) ?_
  obtain ⟨g6, hf⟩ := fc_of_gd hf
  refine mm_iald C hM 5 (dd_at td_needPleads 10 rfl) (by decide) (by decide) (fc_of_ix g6) ?_
  refine lv_isub C.1 C.2.1 (dd_at td_needPleads 11 rfl) ?_
  exact mm_ri C hM (dd_at td_needPleads 12 rfl) hf
theorem c_needPleads (l : Launch) (D : va_G) (o : Nat) (ad : Nat → Nat) (cs : ClassId × ClassId × ClassId) (fu : Nat) (x1 : Int32) (x2 : Int32) (st : mm_S) : mm_Mi l D o ad cs yX12_needPleads cX12_needPleads 3 (some .int) 3 65 [.int x1, .int x2] st (M_needPleads fu x1 x2 st) := by
  intro r st' hf
  refine mm_enter (cc := cX12_needPleads) (nL := 3) (ret := some .int) (by decide) rfl (Nat.le_of_ble_eq_true rfl) ?_
  intro p e s m args below meth c ls C hl hM
  exact w_needPleads C fu x1 x2 st hf hl hM

/-! siegePleads -/
def tb_siegePleads : List (Nat × Instr × Nat) := [(0, .aload_n 0, 1), (1, .bipush 20, 2), (3, .invokevirtual 346, 3), (6, .aload_n 0, 1), (7, .iload_n 1, 1), (8, .iload_n 2, 1), (9, .invokevirtual 356, 3), (12, .bipush 6, 2), (14, .ixor, 1), (15, .ireturn, 1)]
theorem td_siegePleads : tb_siegePleads.all (fun q => decide (decode cX12_siegePleads q.1 = .ok (q.2.1, q.2.2))) = true := by decide +kernel
theorem hd_siegePleads : yX12_siegePleads.cls = RX12 ∧ yX12_siegePleads.cls ≠ "java/lang/invoke/MethodHandle" ∧ yX12_siegePleads.cls ≠ "java/lang/invoke/VarHandle" ∧ (parseMethodDescriptor yX12_siegePleads.desc).map (fun d => d.parameters.length) = some 2 := by decide +kernel
theorem w_siegePleads {p : Program} {l : Launch} {e : Env} {s : State} {m : MethodId} {args : Array Value} {below : List Frame} {meth : Method} {c : Code} {D : va_G} {o : Nat} {ad : Nat → Nat} {cs : ClassId × ClassId × ClassId} {r : Int32} {st' : mm_S} (C : mm_C p s m args meth c cX12_siegePleads 3 (some .int) D cs) (fu : Nat) (x1 : Int32) (x2 : Int32) (st : mm_S) (hf : M_siegePleads fu x1 x2 st = some (r, st')) {H : Heap} {locs : List Loc} {ls : Array Slot} (hl : lv_has ls 3 [(0, .ref o), (1, .int x1), (2, .int x2)]) (hM : mm_H D o ad cs s.heap st H locs) : W p l e (mm_R 4 87) s m args below meth c H locs 0 0 (MQ below (mm_Qi D o ad cs r st') args s 0 0 (mm_A o ad)) (F0 m 0 ls []) := by
  unfold M_siegePleads at hf
  refine lv_aload_n C.1 C.2.1 (dd_at td_siegePleads 0 rfl) rfl (lv_at hl 0 rfl) ?_
  refine lv_bipush (v := (20 : Int32)) C.1 C.2.1 (dd_at td_siegePleads 1 rfl) (by decide) ?_
  obtain ⟨st1, hx2, hf⟩ := fc_of_bv hf
  refine mm_cv (As := [.int (20 : Int32)]) (rest := []) (n := 1) C hM (c_body l D o ad cs fu (20 : Int32) st) (List.mem_of_getElem? (i := 5) rfl) (dd_at td_siegePleads 2 rfl) hx2 hl.1 hd_body ⟨Nat.le_of_ble_eq_true rfl, Nat.le_of_ble_eq_true rfl⟩ rfl rfl (Nat.le_of_ble_eq_true rfl) ⟨Nat.le_refl 0, Nat.le_refl 0⟩ (fun H locs hM => ?_)
  refine lv_aload_n C.1 C.2.1 (dd_at td_siegePleads 3 rfl) rfl (lv_at hl 0 rfl) ?_
  refine lv_iload_n C.1 C.2.1 (dd_at td_siegePleads 4 rfl) rfl (lv_at hl 1 rfl) ?_
  refine lv_iload_n C.1 C.2.1 (dd_at td_siegePleads 5 rfl) rfl (lv_at hl 2 rfl) ?_
  obtain ⟨r5, st3, hx4, hf⟩ := fc_of_bn hf
  refine mm_ci (As := [.int x1, .int x2]) (rest := []) (n := 2) C hM (c_needPleads l D o ad cs fu x1 x2 st1) (List.mem_of_getElem? (i := 31) rfl) (dd_at td_siegePleads 6 rfl) hx4 hl.1 hd_needPleads ⟨Nat.le_of_ble_eq_true rfl, Nat.le_of_ble_eq_true rfl⟩ rfl rfl (Nat.le_of_ble_eq_true rfl) ⟨Nat.le_refl 0, Nat.le_refl 0⟩ (fun H locs hM => ?_)
  refine lv_bipush (v := (6 : Int32)) C.1 C.2.1 (dd_at td_siegePleads 7 rfl) (by decide) ?_
  refine lv_ixor C.1 C.2.1 (dd_at td_siegePleads 8 rfl) ?_
  exact mm_ri C hM (dd_at td_siegePleads 9 rfl) hf
theorem c_siegePleads (l : Launch) (D : va_G) (o : Nat) (ad : Nat → Nat) (cs : ClassId × ClassId × ClassId) (fu : Nat) (x1 : Int32) (x2 : Int32) (st : mm_S) : mm_Mi l D o ad cs yX12_siegePleads cX12_siegePleads 3 (some .int) 4 87 [.int x1, .int x2] st (M_siegePleads fu x1 x2 st) := by
  intro r st' hf
  refine mm_enter (cc := cX12_siegePleads) (nL := 3) (ret := some .int) (by decide) rfl (Nat.le_of_ble_eq_true rfl) ?_
  intro p e s m args below meth c ls C hl hM
  exact w_siegePleads C fu x1 x2 st hf hl hM

/-! pleadsAct -/
def tb_pleadsAct : List (Nat × Instr × Nat) := [(0, .aload_n 0, 1), (1, .getfield 22, 3), (4, .iload_n 1, 1), (5, .iaload, 1), (6, .lookupswitch 78 #[(1, 34), (4, 41), (6, 56)], 34), (40, .aload_n 0, 1), (41, .iload_n 1, 1), (42, .iload_n 2, 1), (43, .invokevirtual 359, 3), (46, .ireturn, 1), (47, .aload_n 0, 1), (48, .bipush 51, 2), (50, .invokevirtual 346, 3), (53, .aload_n 0, 1), (54, .iload_n 1, 1), (55, .iload_n 2, 1), (56, .iconst 1, 1), (57, .iadd, 1), (58, .invokevirtual 359, 3), (61, .ireturn, 1), (62, .aload_n 0, 1), (63, .bipush 70, 2), (65, .invokevirtual 346, 3), (68, .aload_n 0, 1), (69, .iload_n 1, 1), (70, .iload_n 2, 1), (71, .invokevirtual 356, 3), (74, .istore_n 3, 1), (75, .iload_n 3, 1), (76, .aload_n 0, 1), (77, .iload_n 1, 1), (78, .iconst 2, 1), (79, .invokevirtual 349, 3), (82, .iadd, 1), (83, .ireturn, 1), (84, .aload_n 0, 1), (85, .iload_n 1, 1), (86, .iload_n 2, 1), (87, .invokevirtual 356, 3), (90, .ireturn, 1)]
theorem td_pleadsAct : tb_pleadsAct.all (fun q => decide (decode cX12_pleadsAct q.1 = .ok (q.2.1, q.2.2))) = true := by decide +kernel
theorem hd_pleadsAct : yX12_pleadsAct.cls = RX12 ∧ yX12_pleadsAct.cls ≠ "java/lang/invoke/MethodHandle" ∧ yX12_pleadsAct.cls ≠ "java/lang/invoke/VarHandle" ∧ (parseMethodDescriptor yX12_pleadsAct.desc).map (fun d => d.parameters.length) = some 2 := by decide +kernel
theorem w_pleadsAct {p : Program} {l : Launch} {e : Env} {s : State} {m : MethodId} {args : Array Value} {below : List Frame} {meth : Method} {c : Code} {D : va_G} {o : Nat} {ad : Nat → Nat} {cs : ClassId × ClassId × ClassId} {r : Int32} {st' : mm_S} (C : mm_C p s m args meth c cX12_pleadsAct 4 (some .int) D cs) (fu : Nat) (x1 : Int32) (x2 : Int32) (st : mm_S) (hf : M_pleadsAct fu x1 x2 st = some (r, st')) {H : Heap} {locs : List Loc} {ls : Array Slot} (hl : lv_has ls 4 [(0, .ref o), (1, .int x1), (2, .int x2)]) (hM : mm_H D o ad cs s.heap st H locs) : W p l e (mm_R 5 109) s m args below meth c H locs 0 0 (MQ below (mm_Qi D o ad cs r st') args s 0 0 (mm_A o ad)) (F0 m 0 ls []) := by
  unfold M_pleadsAct at hf
  refine lv_aload_n C.1 C.2.1 (dd_at td_pleadsAct 0 rfl) rfl (lv_at hl 0 rfl) ?_
  refine mm_gA C hM 4 (dd_at td_pleadsAct 1 rfl) (by decide) (by decide) (by decide) ?_
  refine lv_iload_n C.1 C.2.1 (dd_at td_pleadsAct 2 rfl) rfl (lv_at hl 1 rfl) ?_
  obtain ⟨g1, hf⟩ := fc_of_gd hf
  refine mm_iald C hM 4 (dd_at td_pleadsAct 3 rfl) (by decide) (by decide) (fc_of_ix g1) ?_
  refine lv_topi (fun v2 ev2 => ?_)
  replace hf := fc_of_nm hf v2 ev2
  by_cases c3 : v2 = (1 : Int32)
  · replace hf := fc_of_t hf c3
    refine lv_lookup (off := 34) (tgt := 40) C.1 C.2.1 (dd_at td_pleadsAct 4 rfl) (by decide) (by rw [c3]; decide) (by decide) ?_
    refine lv_aload_n C.1 C.2.1 (dd_at td_pleadsAct 5 rfl) rfl (lv_at hl 0 rfl) ?_
    refine lv_iload_n C.1 C.2.1 (dd_at td_pleadsAct 6 rfl) rfl (lv_at hl 1 rfl) ?_
    refine lv_iload_n C.1 C.2.1 (dd_at td_pleadsAct 7 rfl) rfl (lv_at hl 2 rfl) ?_
    obtain ⟨r6, st4, hx5, hf⟩ := fc_of_bn hf
    refine mm_ci (As := [.int x1, .int x2]) (rest := []) (n := 2) C hM (c_siegePleads l D o ad cs fu x1 x2 st) (List.mem_of_getElem? (i := 37) rfl) (dd_at td_pleadsAct 8 rfl) hx5 hl.1 hd_siegePleads ⟨Nat.le_of_ble_eq_true rfl, Nat.le_of_ble_eq_true rfl⟩ rfl rfl (Nat.le_of_ble_eq_true rfl) ⟨Nat.le_refl 0, Nat.le_refl 0⟩ (fun H locs hM => ?_)
    exact mm_ri C hM (dd_at td_pleadsAct 9 rfl) hf
  · replace hf := fc_of_f hf c3
    by_cases c7 : v2 = (4 : Int32)
    · replace hf := fc_of_t hf c7
      refine lv_lookup (off := 41) (tgt := 47) C.1 C.2.1 (dd_at td_pleadsAct 4 rfl) (by decide) (by rw [c7]; decide) (by decide) ?_
      refine lv_aload_n C.1 C.2.1 (dd_at td_pleadsAct 10 rfl) rfl (lv_at hl 0 rfl) ?_
      refine lv_bipush (v := (51 : Int32)) C.1 C.2.1 (dd_at td_pleadsAct 11 rfl) (by decide) ?_
      obtain ⟨st8, hx9, hf⟩ := fc_of_bv hf
      refine mm_cv (As := [.int (51 : Int32)]) (rest := []) (n := 1) C hM (c_body l D o ad cs fu (51 : Int32) st) (List.mem_of_getElem? (i := 5) rfl) (dd_at td_pleadsAct 12 rfl) hx9 hl.1 hd_body ⟨Nat.le_of_ble_eq_true rfl, Nat.le_of_ble_eq_true rfl⟩ rfl rfl (Nat.le_of_ble_eq_true rfl) ⟨Nat.le_refl 0, Nat.le_refl 0⟩ (fun H locs hM => ?_)
      refine lv_aload_n C.1 C.2.1 (dd_at td_pleadsAct 13 rfl) rfl (lv_at hl 0 rfl) ?_
      refine lv_iload_n C.1 C.2.1 (dd_at td_pleadsAct 14 rfl) rfl (lv_at hl 1 rfl) ?_
      refine lv_iload_n C.1 C.2.1 (dd_at td_pleadsAct 15 rfl) rfl (lv_at hl 2 rfl) ?_
      refine lv_iconst (v := (1 : Int32)) C.1 C.2.1 (dd_at td_pleadsAct 16 rfl) (by decide) ?_
      refine lv_iadd C.1 C.2.1 (dd_at td_pleadsAct 17 rfl) ?_
      obtain ⟨r12, st10, hx11, hf⟩ := fc_of_bn hf
      refine mm_ci (As := [.int x1, .int (x2 + (1 : Int32))]) (rest := []) (n := 2) C hM (c_siegePleads l D o ad cs fu x1 (x2 + (1 : Int32)) st8) (List.mem_of_getElem? (i := 37) rfl) (dd_at td_pleadsAct 18 rfl) hx11 hl.1 hd_siegePleads ⟨Nat.le_of_ble_eq_true rfl, Nat.le_of_ble_eq_true rfl⟩ rfl rfl (Nat.le_of_ble_eq_true rfl) ⟨Nat.le_refl 0, Nat.le_refl 0⟩ (fun H locs hM => ?_)
      exact mm_ri C hM (dd_at td_pleadsAct 19 rfl) hf
    · replace hf := fc_of_f hf c7
      by_cases c13 : v2 = (6 : Int32)
      · replace hf := fc_of_t hf c13
        refine lv_lookup (off := 56) (tgt := 62) C.1 C.2.1 (dd_at td_pleadsAct 4 rfl) (by decide) (by rw [c13]; decide) (by decide) ?_
        refine lv_aload_n C.1 C.2.1 (dd_at td_pleadsAct 20 rfl) rfl (lv_at hl 0 rfl) ?_
        refine lv_bipush (v := (70 : Int32)) C.1 C.2.1 (dd_at td_pleadsAct 21 rfl) (by decide) ?_
        obtain ⟨st14, hx15, hf⟩ := fc_of_bv hf
        refine mm_cv (As := [.int (70 : Int32)]) (rest := []) (n := 1) C hM (c_body l D o ad cs fu (70 : Int32) st) (List.mem_of_getElem? (i := 5) rfl) (dd_at td_pleadsAct 22 rfl) hx15 hl.1 hd_body ⟨Nat.le_of_ble_eq_true rfl, Nat.le_of_ble_eq_true rfl⟩ rfl rfl (Nat.le_of_ble_eq_true rfl) ⟨Nat.le_refl 0, Nat.le_refl 0⟩ (fun H locs hM => ?_)
        refine lv_aload_n C.1 C.2.1 (dd_at td_pleadsAct 23 rfl) rfl (lv_at hl 0 rfl) ?_
        refine lv_iload_n C.1 C.2.1 (dd_at td_pleadsAct 24 rfl) rfl (lv_at hl 1 rfl) ?_
        refine lv_iload_n C.1 C.2.1 (dd_at td_pleadsAct 25 rfl) rfl (lv_at hl 2 rfl) ?_
        obtain ⟨r18, st16, hx17, hf⟩ := fc_of_bn hf
        refine mm_ci (As := [.int x1, .int x2]) (rest := []) (n := 2) C hM (c_needPleads l D o ad cs fu x1 x2 st14) (List.mem_of_getElem? (i := 31) rfl) (dd_at td_pleadsAct 26 rfl) hx17 hl.1 hd_needPleads ⟨Nat.le_of_ble_eq_true rfl, Nat.le_of_ble_eq_true rfl⟩ rfl rfl (Nat.le_of_ble_eq_true rfl) ⟨Nat.le_refl 0, Nat.le_refl 0⟩ (fun H locs hM => ?_)
        refine lv_istore_n (lv' := [(3, .int r18), (0, .ref o), (1, .int x1), (2, .int x2)]) C.1 C.2.1 (dd_at td_pleadsAct 27 rfl) rfl hl (by decide) rfl (fun ls hl => ?_)
        refine lv_iload_n C.1 C.2.1 (dd_at td_pleadsAct 28 rfl) rfl (lv_at hl 0 rfl) ?_
        refine lv_aload_n C.1 C.2.1 (dd_at td_pleadsAct 29 rfl) rfl (lv_at hl 1 rfl) ?_
        refine lv_iload_n C.1 C.2.1 (dd_at td_pleadsAct 30 rfl) rfl (lv_at hl 2 rfl) ?_
        refine lv_iconst (v := (2 : Int32)) C.1 C.2.1 (dd_at td_pleadsAct 31 rfl) (by decide) ?_
        obtain ⟨r21, st19, hx20, hf⟩ := fc_of_bn hf
        refine mm_ci (As := [.int x1, .int (2 : Int32)]) (rest := [.int r18]) (n := 2) C hM (c_needDarkens l D o ad cs fu x1 (2 : Int32) st16) (List.mem_of_getElem? (i := 30) rfl) (dd_at td_pleadsAct 32 rfl) hx20 hl.1 hd_needDarkens ⟨Nat.le_of_ble_eq_true rfl, Nat.le_of_ble_eq_true rfl⟩ rfl rfl (Nat.le_of_ble_eq_true rfl) ⟨Nat.le_refl 0, Nat.le_refl 0⟩ (fun H locs hM => ?_)
        refine lv_iadd C.1 C.2.1 (dd_at td_pleadsAct 33 rfl) ?_
        exact mm_ri C hM (dd_at td_pleadsAct 34 rfl) hf
      · replace hf := fc_of_f hf c13
        refine lv_lookup (off := 78) (tgt := 84) C.1 C.2.1 (dd_at td_pleadsAct 4 rfl) (by decide) (by show Op.lookupswitch.offset [(1, 34), (4, 41), (6, 56)] 78 _ = _; rw [lv_osw c3 (by decide), lv_osw c7 (by decide), lv_osw c13 (by decide)]; rfl) (by decide) ?_
        refine lv_aload_n C.1 C.2.1 (dd_at td_pleadsAct 35 rfl) rfl (lv_at hl 0 rfl) ?_
        refine lv_iload_n C.1 C.2.1 (dd_at td_pleadsAct 36 rfl) rfl (lv_at hl 1 rfl) ?_
        refine lv_iload_n C.1 C.2.1 (dd_at td_pleadsAct 37 rfl) rfl (lv_at hl 2 rfl) ?_
        obtain ⟨r24, st22, hx23, hf⟩ := fc_of_bn hf
        refine mm_ci (As := [.int x1, .int x2]) (rest := []) (n := 2) C hM (c_needPleads l D o ad cs fu x1 x2 st) (List.mem_of_getElem? (i := 31) rfl) (dd_at td_pleadsAct 38 rfl) hx23 hl.1 hd_needPleads ⟨Nat.le_of_ble_eq_true rfl, Nat.le_of_ble_eq_true rfl⟩ rfl rfl (Nat.le_of_ble_eq_true rfl) ⟨Nat.le_refl 0, Nat.le_refl 0⟩ (fun H locs hM => ?_)
        exact mm_ri C hM (dd_at td_pleadsAct 39 rfl) hf
theorem c_pleadsAct (l : Launch) (D : va_G) (o : Nat) (ad : Nat → Nat) (cs : ClassId × ClassId × ClassId) (fu : Nat) (x1 : Int32) (x2 : Int32) (st : mm_S) : mm_Mi l D o ad cs yX12_pleadsAct cX12_pleadsAct 4 (some .int) 5 109 [.int x1, .int x2] st (M_pleadsAct fu x1 x2 st) := by
  intro r st' hf
  refine mm_enter (cc := cX12_pleadsAct) (nL := 4) (ret := some .int) (by decide) rfl (Nat.le_of_ble_eq_true rfl) ?_
  intro p e s m args below meth c ls C hl hM
  exact w_pleadsAct C fu x1 x2 st hf hl hM

/-! needTells -/
def tb_needTells : List (Nat × Instr × Nat) := [(0, .aload_n 0, 1), (1, .bipush 12, 2), (3, .invokevirtual 346, 3), (6, .aload_n 0, 1), (7, .iload_n 1, 1), (8, .iload_n 2, 1), (9, .invokevirtual 362, 3), (12, .iconst 2, 1), (13, .imul, 1), (14, .ireturn, 1)]
theorem td_needTells : tb_needTells.all (fun q => decide (decode cX12_needTells q.1 = .ok (q.2.1, q.2.2))) = true := by decide +kernel
theorem hd_needTells : yX12_needTells.cls = RX12 ∧ yX12_needTells.cls ≠ "java/lang/invoke/MethodHandle" ∧ yX12_needTells.cls ≠ "java/lang/invoke/VarHandle" ∧ (parseMethodDescriptor yX12_needTells.desc).map (fun d => d.parameters.length) = some 2 := by decide +kernel
theorem w_needTells {p : Program} {l : Launch} {e : Env} {s : State} {m : MethodId} {args : Array Value} {below : List Frame} {meth : Method} {c : Code} {D : va_G} {o : Nat} {ad : Nat → Nat} {cs : ClassId × ClassId × ClassId} {r : Int32} {st' : mm_S} (C : mm_C p s m args meth c cX12_needTells 3 (some .int) D cs) (fu : Nat) (x1 : Int32) (x2 : Int32) (st : mm_S) (hf : M_needTells fu x1 x2 st = some (r, st')) {H : Heap} {locs : List Loc} {ls : Array Slot} (hl : lv_has ls 3 [(0, .ref o), (1, .int x1), (2, .int x2)]) (hM : mm_H D o ad cs s.heap st H locs) : W p l e (mm_R 6 132) s m args below meth c H locs 0 0 (MQ below (mm_Qi D o ad cs r st') args s 0 0 (mm_A o ad)) (F0 m 0 ls []) := by
  unfold M_needTells at hf
  refine lv_aload_n C.1 C.2.1 (dd_at td_needTells 0 rfl) rfl (lv_at hl 0 rfl) ?_
  refine lv_bipush (v := (12 : Int32)) C.1 C.2.1 (dd_at td_needTells 1 rfl) (by decide) ?_
  obtain ⟨st1, hx2, hf⟩ := fc_of_bv hf
  refine mm_cv (As := [.int (12 : Int32)]) (rest := []) (n := 1) C hM (c_body l D o ad cs fu (12 : Int32) st) (List.mem_of_getElem? (i := 5) rfl) (dd_at td_needTells 2 rfl) hx2 hl.1 hd_body ⟨Nat.le_of_ble_eq_true rfl, Nat.le_of_ble_eq_true rfl⟩ rfl rfl (Nat.le_of_ble_eq_true rfl) ⟨Nat.le_refl 0, Nat.le_refl 0⟩ (fun H locs hM => ?_)
  refine lv_aload_n C.1 C.2.1 (dd_at td_needTells 3 rfl) rfl (lv_at hl 0 rfl) ?_
  refine lv_iload_n C.1 C.2.1 (dd_at td_needTells 4 rfl) rfl (lv_at hl 1 rfl) ?_
  refine lv_iload_n C.1 C.2.1 (dd_at td_needTells 5 rfl) rfl (lv_at hl 2 rfl) ?_
  obtain ⟨r5, st3, hx4, hf⟩ := fc_of_bn hf
  refine mm_ci (As := [.int x1, .int x2]) (rest := []) (n := 2) C hM (c_pleadsAct l D o ad cs fu x1 x2 st1) (List.mem_of_getElem? (i := 35) rfl) (dd_at td_needTells 6 rfl) hx4 hl.1 hd_pleadsAct ⟨Nat.le_of_ble_eq_true rfl, Nat.le_of_ble_eq_true rfl⟩ rfl rfl (Nat.le_of_ble_eq_true rfl) ⟨Nat.le_refl 0, Nat.le_refl 0⟩ (fun H locs hM => ?_)
  refine lv_iconst (v := (2 : Int32)) C.1 C.2.1 (dd_at td_needTells 7 rfl) (by decide) ?_
  refine lv_imul C.1 C.2.1 (dd_at td_needTells 8 rfl) ?_
  exact mm_ri C hM (dd_at td_needTells 9 rfl) hf
theorem c_needTells (l : Launch) (D : va_G) (o : Nat) (ad : Nat → Nat) (cs : ClassId × ClassId × ClassId) (fu : Nat) (x1 : Int32) (x2 : Int32) (st : mm_S) : mm_Mi l D o ad cs yX12_needTells cX12_needTells 3 (some .int) 6 132 [.int x1, .int x2] st (M_needTells fu x1 x2 st) := by
  intro r st' hf
  refine mm_enter (cc := cX12_needTells) (nL := 3) (ret := some .int) (by decide) rfl (Nat.le_of_ble_eq_true rfl) ?_
  intro p e s m args below meth c ls C hl hM
  exact w_needTells C fu x1 x2 st hf hl hM

/-! tellsAct -/
def tb_tellsAct : List (Nat × Instr × Nat) := [(0, .aload_n 0, 1), (1, .getfield 22, 3), (4, .iload_n 1, 1), (5, .iaload, 1), (6, .tableswitch 67 3 6 #[30, 67, 52, 30], 30), (36, .aload_n 0, 1), (37, .bipush 40, 2), (39, .invokevirtual 346, 3), (42, .aload_n 0, 1), (43, .iload_n 1, 1), (44, .iload_n 2, 1), (45, .invokevirtual 365, 3), (48, .istore_n 3, 1), (49, .iload_n 3, 1), (50, .aload_n 0, 1), (51, .iload_n 1, 1), (52, .iconst 1, 1), (53, .invokevirtual 362, 3), (56, .iadd, 1), (57, .ireturn, 1), (58, .aload_n 0, 1), (59, .bipush 60, 2), (61, .invokevirtual 346, 3), (64, .aload_n 0, 1), (65, .iload_n 1, 1), (66, .iload_n 2, 1), (67, .iload_n 1, 1), (68, .isub, 1), (69, .invokevirtual 365, 3), (72, .ireturn, 1), (73, .aload_n 0, 1), (74, .iload_n 1, 1), (75, .iload_n 2, 1), (76, .invokevirtual 365, 3), (79, .ireturn, 1)]
theorem td_tellsAct : tb_tellsAct.all (fun q => decide (decode cX12_tellsAct q.1 = .ok (q.2.1, q.2.2))) = true := by decide +kernel
theorem hd_tellsAct : yX12_tellsAct.cls = RX12 ∧ yX12_tellsAct.cls ≠ "java/lang/invoke/MethodHandle" ∧ yX12_tellsAct.cls ≠ "java/lang/invoke/VarHandle" ∧ (parseMethodDescriptor yX12_tellsAct.desc).map (fun d => d.parameters.length) = some 2 := by decide +kernel
theorem w_tellsAct_b36 {p : Program} {l : Launch} {e : Env} {s : State} {m : MethodId} {args : Array Value} {below : List Frame} {meth : Method} {c : Code} {D : va_G} {o : Nat} {ad : Nat → Nat} {cs : ClassId × ClassId × ClassId} {r : Int32} {st' : mm_S} (C : mm_C p s m args meth c cX12_tellsAct 4 (some .int) D cs) (fu : Nat) (x1 : Int32) (x2 : Int32) (st : mm_S) (hf : M_tellsAct_b36 fu x1 x2 st = some (r, st')) {H : Heap} {locs : List Loc} {ls : Array Slot} (hl : lv_has ls 4 [(0, .ref o), (1, .int x1), (2, .int x2)]) (hM : mm_H D o ad cs s.heap st H locs) : W p l e (mm_R 7 154) s m args below meth c H locs 0 0 (MQ below (mm_Qi D o ad cs r st') args s 0 0 (mm_A o ad)) (F0 m 36 ls []) := by
  unfold M_tellsAct_b36 at hf
  refine lv_aload_n C.1 C.2.1 (dd_at td_tellsAct 5 rfl) rfl (lv_at hl 0 rfl) ?_
  refine lv_bipush (v := (40 : Int32)) C.1 C.2.1 (dd_at td_tellsAct 6 rfl) (by decide) ?_
  obtain ⟨st12, hx13, hf⟩ := fc_of_bv hf
  refine mm_cv (As := [.int (40 : Int32)]) (rest := []) (n := 1) C hM (c_body l D o ad cs fu (40 : Int32) st) (List.mem_of_getElem? (i := 5) rfl) (dd_at td_tellsAct 7 rfl) hx13 hl.1 hd_body ⟨Nat.le_of_ble_eq_true rfl, Nat.le_of_ble_eq_true rfl⟩ rfl rfl (Nat.le_of_ble_eq_true rfl) ⟨Nat.le_refl 0, Nat.le_refl 0⟩ (fun H locs hM => ?_)
  refine lv_aload_n C.1 C.2.1 (dd_at td_tellsAct 8 rfl) rfl (lv_at hl 0 rfl) ?_
  refine lv_iload_n C.1 C.2.1 (dd_at td_tellsAct 9 rfl) rfl (lv_at hl 1 rfl) ?_
  refine lv_iload_n C.1 C.2.1 (dd_at td_tellsAct 10 rfl) rfl (lv_at hl 2 rfl) ?_
  obtain ⟨r16, st14, hx15, hf⟩ := fc_of_bn hf
  refine mm_ci (As := [.int x1, .int x2]) (rest := []) (n := 2) C hM (c_needTells l D o ad cs fu x1 x2 st12) (List.mem_of_getElem? (i := 32) rfl) (dd_at td_tellsAct 11 rfl) hx15 hl.1 hd_needTells ⟨Nat.le_of_ble_eq_true rfl, Nat.le_of_ble_eq_true rfl⟩ rfl rfl (Nat.le_of_ble_eq_true rfl) ⟨Nat.le_refl 0, Nat.le_refl 0⟩ (fun H locs hM => ?_)
  refine lv_istore_n (lv' := [(3, .int r16), (0, .ref o), (1, .int x1), (2, .int x2)]) C.1 C.2.1 (dd_at td_tellsAct 12 rfl) rfl hl (by decide) rfl (fun ls hl => ?_)
  refine lv_iload_n C.1 C.2.1 (dd_at td_tellsAct 13 rfl) rfl (lv_at hl 0 rfl) ?_
  refine lv_aload_n C.1 C.2.1 (dd_at td_tellsAct 14 rfl) rfl (lv_at hl 1 rfl) ?_
  refine lv_iload_n C.1 C.2.1 (dd_at td_tellsAct 15 rfl) rfl (lv_at hl 2 rfl) ?_
  refine lv_iconst (v := (1 : Int32)) C.1 C.2.1 (dd_at td_tellsAct 16 rfl) (by decide) ?_
  obtain ⟨r19, st17, hx18, hf⟩ := fc_of_bn hf
  refine mm_ci (As := [.int x1, .int (1 : Int32)]) (rest := [.int r16]) (n := 2) C hM (c_pleadsAct l D o ad cs fu x1 (1 : Int32) st14) (List.mem_of_getElem? (i := 35) rfl) (dd_at td_tellsAct 17 rfl) hx18 hl.1 hd_pleadsAct ⟨Nat.le_of_ble_eq_true rfl, Nat.le_of_ble_eq_true rfl⟩ rfl rfl (Nat.le_of_ble_eq_true rfl) ⟨Nat.le_refl 0, Nat.le_refl 0⟩ (fun H locs hM => ?_)
  refine lv_iadd C.1 C.2.1 (dd_at td_tellsAct 18 rfl) ?_
  exact mm_ri C hM (dd_at td_tellsAct 19 rfl) hf
theorem w_tellsAct_b73 {p : Program} {l : Launch} {e : Env} {s : State} {m : MethodId} {args : Array Value} {below : List Frame} {meth : Method} {c : Code} {D : va_G} {o : Nat} {ad : Nat → Nat} {cs : ClassId × ClassId × ClassId} {r : Int32} {st' : mm_S} (C : mm_C p s m args meth c cX12_tellsAct 4 (some .int) D cs) (fu : Nat) (x1 : Int32) (x2 : Int32) (st : mm_S) (hf : M_tellsAct_b73 fu x1 x2 st = some (r, st')) {H : Heap} {locs : List Loc} {ls : Array Slot} (hl : lv_has ls 4 [(0, .ref o), (1, .int x1), (2, .int x2)]) (hM : mm_H D o ad cs s.heap st H locs) : W p l e (mm_R 7 154) s m args below meth c H locs 0 0 (MQ below (mm_Qi D o ad cs r st') args s 0 0 (mm_A o ad)) (F0 m 73 ls []) := by
  unfold M_tellsAct_b73 at hf
  refine lv_aload_n C.1 C.2.1 (dd_at td_tellsAct 30 rfl) rfl (lv_at hl 0 rfl) ?_
  refine lv_iload_n C.1 C.2.1 (dd_at td_tellsAct 31 rfl) rfl (lv_at hl 1 rfl) ?_
  refine lv_iload_n C.1 C.2.1 (dd_at td_tellsAct 32 rfl) rfl (lv_at hl 2 rfl) ?_
  obtain ⟨r22, st20, hx21, hf⟩ := fc_of_bn hf
  refine mm_ci (As := [.int x1, .int x2]) (rest := []) (n := 2) C hM (c_needTells l D o ad cs fu x1 x2 st) (List.mem_of_getElem? (i := 32) rfl) (dd_at td_tellsAct 33 rfl) hx21 hl.1 hd_needTells ⟨Nat.le_of_ble_eq_true rfl, Nat.le_of_ble_eq_true rfl⟩ rfl rfl (Nat.le_of_ble_eq_true rfl) ⟨Nat.le_refl 0, Nat.le_refl 0⟩ (fun H locs hM => ?_)
  exact mm_ri C hM (dd_at td_tellsAct 34 rfl) hf
theorem w_tellsAct {p : Program} {l : Launch} {e : Env} {s : State} {m : MethodId} {args : Array Value} {below : List Frame} {meth : Method} {c : Code} {D : va_G} {o : Nat} {ad : Nat → Nat} {cs : ClassId × ClassId × ClassId} {r : Int32} {st' : mm_S} (C : mm_C p s m args meth c cX12_tellsAct 4 (some .int) D cs) (fu : Nat) (x1 : Int32) (x2 : Int32) (st : mm_S) (hf : M_tellsAct fu x1 x2 st = some (r, st')) {H : Heap} {locs : List Loc} {ls : Array Slot} (hl : lv_has ls 4 [(0, .ref o), (1, .int x1), (2, .int x2)]) (hM : mm_H D o ad cs s.heap st H locs) : W p l e (mm_R 7 154) s m args below meth c H locs 0 0 (MQ below (mm_Qi D o ad cs r st') args s 0 0 (mm_A o ad)) (F0 m 0 ls []) := by
  unfold M_tellsAct at hf
  refine lv_aload_n C.1 C.2.1 (dd_at td_tellsAct 0 rfl) rfl (lv_at hl 0 rfl) ?_
  refine mm_gA C hM 4 (dd_at td_tellsAct 1 rfl) (by decide) (by decide) (by decide) ?_
  refine lv_iload_n C.1 C.2.1 (dd_at td_tellsAct 2 rfl) rfl (lv_at hl 1 rfl) ?_
  obtain ⟨g1, hf⟩ := fc_of_gd hf
  refine mm_iald C hM 4 (dd_at td_tellsAct 3 rfl) (by decide) (by decide) (fc_of_ix g1) ?_
  refine lv_topi (fun v2 ev2 => ?_)
  replace hf := fc_of_nm hf v2 ev2
  by_cases c3 : v2 = (3 : Int32)
  · replace hf := fc_of_t hf c3
    refine lv_tableIn (off := 30) (tgt := 36) C.1 C.2.1 (dd_at td_tellsAct 4 rfl) (by rw [c3]; decide) (by rw [c3]; decide) (by rw [c3]; decide) (by decide) ?_
    exact w_tellsAct_b36 C fu x1 x2 st hf (lv_sub hl [0, 1, 2] rfl) hM
  · replace hf := fc_of_f hf c3
    by_cases c4 : v2 = (4 : Int32)
    · replace hf := fc_of_t hf c4
      refine lv_tableIn (off := 67) (tgt := 73) C.1 C.2.1 (dd_at td_tellsAct 4 rfl) (by rw [c4]; decide) (by rw [c4]; decide) (by rw [c4]; decide) (by decide) ?_
      exact w_tellsAct_b73 C fu x1 x2 st hf (lv_sub hl [0, 1, 2] rfl) hM
    · replace hf := fc_of_f hf c4
      by_cases c5 : v2 = (5 : Int32)
      · replace hf := fc_of_t hf c5
        refine lv_tableIn (off := 52) (tgt := 58) C.1 C.2.1 (dd_at td_tellsAct 4 rfl) (by rw [c5]; decide) (by rw [c5]; decide) (by rw [c5]; decide) (by decide) ?_
        refine lv_aload_n C.1 C.2.1 (dd_at td_tellsAct 20 rfl) rfl (lv_at hl 0 rfl) ?_
        refine lv_bipush (v := (60 : Int32)) C.1 C.2.1 (dd_at td_tellsAct 21 rfl) (by decide) ?_
        obtain ⟨st6, hx7, hf⟩ := fc_of_bv hf
        refine mm_cv (As := [.int (60 : Int32)]) (rest := []) (n := 1) C hM (c_body l D o ad cs fu (60 : Int32) st) (List.mem_of_getElem? (i := 5) rfl) (dd_at td_tellsAct 22 rfl) hx7 hl.1 hd_body ⟨Nat.le_of_ble_eq_true rfl, Nat.le_of_ble_eq_true rfl⟩ rfl rfl (Nat.le_of_ble_eq_true rfl) ⟨Nat.le_refl 0, Nat.le_refl 0⟩ (fun H locs hM => ?_)
        refine lv_aload_n C.1 C.2.1 (dd_at td_tellsAct 23 rfl) rfl (lv_at hl 0 rfl) ?_
        refine lv_iload_n C.1 C.2.1 (dd_at td_tellsAct 24 rfl) rfl (lv_at hl 1 rfl) ?_
        refine lv_iload_n C.1 C.2.1 (dd_at td_tellsAct 25 rfl) rfl (lv_at hl 2 rfl) ?_
        refine lv_iload_n C.1 C.2.1 (dd_at td_tellsAct 26 rfl) rfl (lv_at hl 1 rfl) ?_
        refine lv_isub C.1 C.2.1 (dd_at td_tellsAct 27 rfl) ?_
        obtain ⟨r10, st8, hx9, hf⟩ := fc_of_bn hf
        refine mm_ci (As := [.int x1, .int (x2 - x1)]) (rest := []) (n := 2) C hM (c_needTells l D o ad cs fu x1 (x2 - x1) st6) (List.mem_of_getElem? (i := 32) rfl) (dd_at td_tellsAct 28 rfl) hx9 hl.1 hd_needTells ⟨Nat.le_of_ble_eq_true rfl, Nat.le_of_ble_eq_true rfl⟩ rfl rfl (Nat.le_of_ble_eq_true rfl) ⟨Nat.le_refl 0, Nat.le_refl 0⟩ (fun H locs hM => ?_)
        exact mm_ri C hM (dd_at td_tellsAct 29 rfl) hf
      · replace hf := fc_of_f hf c5
        by_cases c11 : v2 = (6 : Int32)
        · replace hf := fc_of_t hf c11
          refine lv_tableIn (off := 30) (tgt := 36) C.1 C.2.1 (dd_at td_tellsAct 4 rfl) (by rw [c11]; decide) (by rw [c11]; decide) (by rw [c11]; decide) (by decide) ?_
          exact w_tellsAct_b36 C fu x1 x2 st hf (lv_sub hl [0, 1, 2] rfl) hM
        · replace hf := fc_of_f hf c11
          refine lv_tableOut (tgt := 73) C.1 C.2.1 (dd_at td_tellsAct 4 rfl) (by have q0 := lv_neT c3 (a := 3) (by decide); have q1 := lv_neT c4 (a := 4) (by decide); have q2 := lv_neT c5 (a := 5) (by decide); have q3 := lv_neT c11 (a := 6) (by decide); omega) (by decide) ?_
          exact w_tellsAct_b73 C fu x1 x2 st hf (lv_sub hl [0, 1, 2] rfl) hM
theorem c_tellsAct (l : Launch) (D : va_G) (o : Nat) (ad : Nat → Nat) (cs : ClassId × ClassId × ClassId) (fu : Nat) (x1 : Int32) (x2 : Int32) (st : mm_S) : mm_Mi l D o ad cs yX12_tellsAct cX12_tellsAct 4 (some .int) 7 154 [.int x1, .int x2] st (M_tellsAct fu x1 x2 st) := by
  intro r st' hf
  refine mm_enter (cc := cX12_tellsAct) (nL := 4) (ret := some .int) (by decide) rfl (Nat.le_of_ble_eq_true rfl) ?_
  intro p e s m args below meth c ls C hl hM
  exact w_tellsAct C fu x1 x2 st hf hl hM

/-! act -/
def tb_act : List (Nat × Instr × Nat) := [(0, .aload_n 0, 1), (1, .iconst 0, 1), (2, .putfield 185, 3), (5, .aload_n 0, 1), (6, .iload_n 1, 1), (7, .invokevirtual 215, 3), (10, .ifCond .eq 13, 3), (13, .aload_n 0, 1), (14, .iload_n 2, 1), (15, .iconst 0, 1), (16, .iconst 2, 1), (17, .invokevirtual 207, 3), (20, .ifCond .ne 5, 3), (23, .iconst 0, 1), (24, .ireturn, 1), (25, .iload_n 2, 1), (26, .ifCond .ne 12, 3), (29, .aload_n 0, 1), (30, .iload_n 1, 1), (31, .iload_n 3, 1), (32, .invokevirtual 353, 3), (35, .goto 23, 3), (38, .iload_n 2, 1), (39, .iconst 1, 1), (40, .if_icmp .ne 12, 3), (43, .aload_n 0, 1), (44, .iload_n 1, 1), (45, .iload_n 3, 1), (46, .invokevirtual 362, 3), (49, .goto 9, 3), (52, .aload_n 0, 1), (53, .iload_n 1, 1), (54, .iload_n 3, 1), (55, .invokevirtual 368, 3), (58, .ireturn, 1)]
theorem td_act : tb_act.all (fun q => decide (decode cX12_act q.1 = .ok (q.2.1, q.2.2))) = true := by decide +kernel
theorem w_act {p : Program} {l : Launch} {e : Env} {s : State} {m : MethodId} {args : Array Value} {below : List Frame} {meth : Method} {c : Code} {D : va_G} {o : Nat} {ad : Nat → Nat} {cs : ClassId × ClassId × ClassId} {r : Int32} {st' : mm_S} (C : mm_C p s m args meth c cX12_act 4 (some .int) D cs) (fu : Nat) (x1 : Int32) (x2 : Int32) (x3 : Int32) (st : mm_S) (hf : M_act fu x1 x2 x3 st = some (r, st')) {H : Heap} {locs : List Loc} {ls : Array Slot} (hl : lv_has ls 4 [(0, .ref o), (1, .int x1), (2, .int x2), (3, .int x3)]) (hM : mm_H D o ad cs s.heap st H locs) : W p l e (mm_R 8 177) s m args below meth c H locs 0 0 (MQ below (mm_Qi D o ad cs r st') args s 0 0 (mm_A o ad)) (F0 m 0 ls []) := by
  unfold M_act at hf
  refine lv_aload_n C.1 C.2.1 (dd_at td_act 0 rfl) rfl (lv_at hl 0 rfl) ?_
  refine lv_iconst (v := (0 : Int32)) C.1 C.2.1 (dd_at td_act 1 rfl) (by decide) ?_
  refine mm_pI C hM 57 (dd_at td_act 2 rfl) (by decide) (by decide) (by decide) rfl rfl (fun st1 H locs est1 hM => ?_)
  replace hf := fc_of_nm hf st1 est1
  refine lv_aload_n C.1 C.2.1 (dd_at td_act 3 rfl) rfl (lv_at hl 0 rfl) ?_
  refine lv_iload_n C.1 C.2.1 (dd_at td_act 4 rfl) rfl (lv_at hl 1 rfl) ?_
  obtain ⟨r4, st2, hx3, hf⟩ := fc_of_bn hf
  refine mm_ci (As := [.int x1]) (rest := []) (n := 1) C hM (c_isNeed l D o ad cs fu x1 st1) (List.mem_of_getElem? (i := 22) rfl) (dd_at td_act 5 rfl) hx3 hl.1 hd_isNeed ⟨Nat.le_of_ble_eq_true rfl, Nat.le_of_ble_eq_true rfl⟩ rfl rfl (Nat.le_of_ble_eq_true rfl) ⟨Nat.le_refl 0, Nat.le_refl 0⟩ (fun H locs hM => ?_)
  refine lv_if_eq (tgt := 23) C.1 C.2.1 (dd_at td_act 6 rfl) (by decide) (fun c5 => ?_) (fun c5 => ?_)
  · replace hf := fc_of_t hf c5
    refine lv_iconst (v := (0 : Int32)) C.1 C.2.1 (dd_at td_act 13 rfl) (by decide) ?_
    exact mm_ri C hM (dd_at td_act 14 rfl) hf
  · replace hf := fc_of_f hf c5
    refine lv_aload_n C.1 C.2.1 (dd_at td_act 7 rfl) rfl (lv_at hl 0 rfl) ?_
    refine lv_iload_n C.1 C.2.1 (dd_at td_act 8 rfl) rfl (lv_at hl 2 rfl) ?_
    refine lv_iconst (v := (0 : Int32)) C.1 C.2.1 (dd_at td_act 9 rfl) (by decide) ?_
    refine lv_iconst (v := (2 : Int32)) C.1 C.2.1 (dd_at td_act 10 rfl) (by decide) ?_
    obtain ⟨r8, st6, hx7, hf⟩ := fc_of_bn hf
    refine mm_ci (As := [.int x2, .int (0 : Int32), .int (2 : Int32)]) (rest := []) (n := 3) C hM (c_in l D o ad cs fu x2 (0 : Int32) (2 : Int32) st2) (List.mem_of_getElem? (i := 18) rfl) (dd_at td_act 11 rfl) hx7 hl.1 hd_in ⟨Nat.le_of_ble_eq_true rfl, Nat.le_of_ble_eq_true rfl⟩ rfl rfl (Nat.le_of_ble_eq_true rfl) ⟨Nat.le_refl 0, Nat.le_refl 0⟩ (fun H locs hM => ?_)
    refine lv_if_ne (tgt := 25) C.1 C.2.1 (dd_at td_act 12 rfl) (by decide) (fun c9 => ?_) (fun c9 => ?_)
    · replace hf := fc_of_f hf c9
      refine lv_iload_n C.1 C.2.1 (dd_at td_act 15 rfl) rfl (lv_at hl 2 rfl) ?_
      refine lv_if_ne (tgt := 38) C.1 C.2.1 (dd_at td_act 16 rfl) (by decide) (fun c10 => ?_) (fun c10 => ?_)
      · replace hf := fc_of_f hf c10
        refine lv_iload_n C.1 C.2.1 (dd_at td_act 22 rfl) rfl (lv_at hl 2 rfl) ?_
        refine lv_iconst (v := (1 : Int32)) C.1 C.2.1 (dd_at td_act 23 rfl) (by decide) ?_
        refine lv_icmp_ne (tgt := 52) C.1 C.2.1 (dd_at td_act 24 rfl) (by decide) (fun c11 => ?_) (fun c11 => ?_)
        · replace hf := fc_of_f hf c11
          refine lv_aload_n C.1 C.2.1 (dd_at td_act 30 rfl) rfl (lv_at hl 0 rfl) ?_
          refine lv_iload_n C.1 C.2.1 (dd_at td_act 31 rfl) rfl (lv_at hl 1 rfl) ?_
          refine lv_iload_n C.1 C.2.1 (dd_at td_act 32 rfl) rfl (lv_at hl 3 rfl) ?_
          obtain ⟨r14, st12, hx13, hf⟩ := fc_of_bn hf
          refine mm_ci (As := [.int x1, .int x3]) (rest := []) (n := 2) C hM (c_tellsAct l D o ad cs fu x1 x3 st6) (List.mem_of_getElem? (i := 45) rfl) (dd_at td_act 33 rfl) hx13 hl.1 hd_tellsAct ⟨Nat.le_of_ble_eq_true rfl, Nat.le_of_ble_eq_true rfl⟩ rfl rfl (Nat.le_of_ble_eq_true rfl) ⟨Nat.le_refl 0, Nat.le_refl 0⟩ (fun H locs hM => ?_)
          exact mm_ri C hM (dd_at td_act 34 rfl) hf
        · replace hf := fc_of_t hf c11
          refine lv_aload_n C.1 C.2.1 (dd_at td_act 25 rfl) rfl (lv_at hl 0 rfl) ?_
          refine lv_iload_n C.1 C.2.1 (dd_at td_act 26 rfl) rfl (lv_at hl 1 rfl) ?_
          refine lv_iload_n C.1 C.2.1 (dd_at td_act 27 rfl) rfl (lv_at hl 3 rfl) ?_
          obtain ⟨r17, st15, hx16, hf⟩ := fc_of_bn hf
          refine mm_ci (As := [.int x1, .int x3]) (rest := []) (n := 2) C hM (c_pleadsAct l D o ad cs fu x1 x3 st6) (List.mem_of_getElem? (i := 35) rfl) (dd_at td_act 28 rfl) hx16 hl.1 hd_pleadsAct ⟨Nat.le_of_ble_eq_true rfl, Nat.le_of_ble_eq_true rfl⟩ rfl rfl (Nat.le_of_ble_eq_true rfl) ⟨Nat.le_refl 0, Nat.le_refl 0⟩ (fun H locs hM => ?_)
          refine lv_goto (tgt := 58) C.1 C.2.1 (dd_at td_act 29 rfl) (by decide) ?_
          exact mm_ri C hM (dd_at td_act 34 rfl) hf
      · replace hf := fc_of_t hf c10
        refine lv_aload_n C.1 C.2.1 (dd_at td_act 17 rfl) rfl (lv_at hl 0 rfl) ?_
        refine lv_iload_n C.1 C.2.1 (dd_at td_act 18 rfl) rfl (lv_at hl 1 rfl) ?_
        refine lv_iload_n C.1 C.2.1 (dd_at td_act 19 rfl) rfl (lv_at hl 3 rfl) ?_
        obtain ⟨r20, st18, hx19, hf⟩ := fc_of_bn hf
        refine mm_ci (As := [.int x1, .int x3]) (rest := []) (n := 2) C hM (c_darkensAct l D o ad cs fu x1 x3 st6) (List.mem_of_getElem? (i := 6) rfl) (dd_at td_act 20 rfl) hx19 hl.1 hd_darkensAct ⟨Nat.le_of_ble_eq_true rfl, Nat.le_of_ble_eq_true rfl⟩ rfl rfl (Nat.le_of_ble_eq_true rfl) ⟨Nat.le_refl 0, Nat.le_refl 0⟩ (fun H locs hM => ?_)
        refine lv_goto (tgt := 58) C.1 C.2.1 (dd_at td_act 21 rfl) (by decide) ?_
        exact mm_ri C hM (dd_at td_act 34 rfl) hf
    · replace hf := fc_of_t hf c9
      refine lv_iconst (v := (0 : Int32)) C.1 C.2.1 (dd_at td_act 13 rfl) (by decide) ?_
      exact mm_ri C hM (dd_at td_act 14 rfl) hf
theorem c_act (l : Launch) (D : va_G) (o : Nat) (ad : Nat → Nat) (cs : ClassId × ClassId × ClassId) (fu : Nat) (x1 : Int32) (x2 : Int32) (x3 : Int32) (st : mm_S) : mm_Mi l D o ad cs yX12_act cX12_act 4 (some .int) 8 177 [.int x1, .int x2, .int x3] st (M_act fu x1 x2 x3 st) := by
  intro r st' hf
  refine mm_enter (cc := cX12_act) (nL := 4) (ret := some .int) (by decide) rfl (Nat.le_of_ble_eq_true rfl) ?_
  intro p e s m args below meth c ls C hl hM
  exact w_act C fu x1 x2 x3 st hf hl hM

/-! trace -/
def tb_trace : List (Nat × Instr × Nat) := [(0, .aload_n 0, 1), (1, .iload_n 1, 1), (2, .iconst 0, 1), (3, .bipush 19, 2), (5, .invokevirtual 207, 3), (8, .ifCond .eq 20, 3), (11, .iload_n 1, 1), (12, .aload_n 0, 1), (13, .getfield 185, 3), (16, .if_icmp .ge 12, 3), (19, .aload_n 0, 1), (20, .getfield 188, 3), (23, .iload_n 1, 1), (24, .iaload, 1), (25, .goto 4, 3), (28, .iconst (-1), 1), (29, .ireturn, 1)]
theorem td_trace : tb_trace.all (fun q => decide (decode cX12_trace q.1 = .ok (q.2.1, q.2.2))) = true := by decide +kernel
theorem w_trace {p : Program} {l : Launch} {e : Env} {s : State} {m : MethodId} {args : Array Value} {below : List Frame} {meth : Method} {c : Code} {D : va_G} {o : Nat} {ad : Nat → Nat} {cs : ClassId × ClassId × ClassId} {r : Int32} {st' : mm_S} (C : mm_C p s m args meth c cX12_trace 2 (some .int) D cs) (fu : Nat) (x1 : Int32) (st : mm_S) (hf : M_trace fu x1 st = some (r, st')) {H : Heap} {locs : List Loc} {ls : Array Slot} (hl : lv_has ls 2 [(0, .ref o), (1, .int x1)]) (hM : mm_H D o ad cs s.heap st H locs) : W p l e (mm_R 1 23) s m args below meth c H locs 0 0 (MQ below (mm_Qi D o ad cs r st') args s 0 0 (mm_A o ad)) (F0 m 0 ls []) := by
  unfold M_trace at hf
  refine lv_aload_n C.1 C.2.1 (dd_at td_trace 0 rfl) rfl (lv_at hl 0 rfl) ?_
  refine lv_iload_n C.1 C.2.1 (dd_at td_trace 1 rfl) rfl (lv_at hl 1 rfl) ?_
  refine lv_iconst (v := (0 : Int32)) C.1 C.2.1 (dd_at td_trace 2 rfl) (by decide) ?_
  refine lv_bipush (v := (19 : Int32)) C.1 C.2.1 (dd_at td_trace 3 rfl) (by decide) ?_
  obtain ⟨r3, st1, hx2, hf⟩ := fc_of_bn hf
  refine mm_ci (As := [.int x1, .int (0 : Int32), .int (19 : Int32)]) (rest := []) (n := 3) C hM (c_in l D o ad cs fu x1 (0 : Int32) (19 : Int32) st) (List.mem_of_getElem? (i := 18) rfl) (dd_at td_trace 4 rfl) hx2 hl.1 hd_in ⟨Nat.le_of_ble_eq_true rfl, Nat.le_of_ble_eq_true rfl⟩ rfl rfl (Nat.le_of_ble_eq_true rfl) ⟨Nat.le_refl 0, Nat.le_refl 0⟩ (fun H locs hM => ?_)
  refine lv_if_eq (tgt := 28) C.1 C.2.1 (dd_at td_trace 5 rfl) (by decide) (fun c4 => ?_) (fun c4 => ?_)
  · replace hf := fc_of_t hf c4
    refine lv_iconst (v := (-1 : Int32)) C.1 C.2.1 (dd_at td_trace 15 rfl) (by decide) ?_
    exact mm_ri C hM (dd_at td_trace 16 rfl) hf
  · replace hf := fc_of_f hf c4
    refine lv_iload_n C.1 C.2.1 (dd_at td_trace 6 rfl) rfl (lv_at hl 1 rfl) ?_
    refine lv_aload_n C.1 C.2.1 (dd_at td_trace 7 rfl) rfl (lv_at hl 0 rfl) ?_
    refine mm_gI C hM 57 (dd_at td_trace 8 rfl) (by decide) (by decide) (by decide) ?_
    refine lv_icmp_ge (tgt := 28) C.1 C.2.1 (dd_at td_trace 9 rfl) (by decide) (fun c5 => ?_) (fun c5 => ?_)
    · replace hf := fc_of_t hf c5
      refine lv_iconst (v := (-1 : Int32)) C.1 C.2.1 (dd_at td_trace 15 rfl) (by decide) ?_
      exact mm_ri C hM (dd_at td_trace 16 rfl) hf
    · replace hf := fc_of_f hf c5
      refine lv_aload_n C.1 C.2.1 (dd_at td_trace 10 rfl) rfl (lv_at hl 0 rfl) ?_
      refine mm_gA C hM 58 (dd_at td_trace 11 rfl) (by decide) (by decide) (by decide) ?_
      refine lv_iload_n C.1 C.2.1 (dd_at td_trace 12 rfl) rfl (lv_at hl 1 rfl) ?_
      obtain ⟨g6, hf⟩ := fc_of_gd hf
      refine mm_iald C hM 58 (dd_at td_trace 13 rfl) (by decide) (by decide) (fc_of_ix g6) ?_
      refine lv_goto (tgt := 29) C.1 C.2.1 (dd_at td_trace 14 rfl) (by decide) ?_
      exact mm_ri C hM (dd_at td_trace 16 rfl) hf
theorem c_trace (l : Launch) (D : va_G) (o : Nat) (ad : Nat → Nat) (cs : ClassId × ClassId × ClassId) (fu : Nat) (x1 : Int32) (st : mm_S) : mm_Mi l D o ad cs yX12_trace cX12_trace 2 (some .int) 1 23 [.int x1] st (M_trace fu x1 st) := by
  intro r st' hf
  refine mm_enter (cc := cX12_trace) (nL := 2) (ret := some .int) (by decide) rfl (Nat.le_of_ble_eq_true rfl) ?_
  intro p e s m args below meth c ls C hl hM
  exact w_trace C fu x1 st hf hl hM

/-! taken -/
def tb_taken : List (Nat × Instr × Nat) := [(0, .aload_n 0, 1), (1, .iload_n 2, 1), (2, .iconst 0, 1), (3, .bipush 6, 2), (5, .invokevirtual 207, 3), (8, .ifCond .ne 6, 3), (11, .bipush (-2), 2), (13, .ireturn, 1), (14, .aload_n 0, 1), (15, .iload_n 1, 1), (16, .invokevirtual 215, 3), (19, .ifCond .ne 6, 3), (22, .bipush (-11), 2), (24, .ireturn, 1), (25, .aload_n 0, 1), (26, .getfield 22, 3), (29, .iload_n 1, 1), (30, .iaload, 1), (31, .istore_n 3, 1), (32, .iload_n 2, 1), (33, .ifCond .eq 39, 3), (36, .iload_n 3, 1), (37, .iload_n 2, 1), (38, .if_icmp .eq 34, 3), (41, .iload_n 2, 1), (42, .iconst 1, 1), (43, .if_icmp .ne 8, 3), (46, .iload_n 3, 1), (47, .iconst 4, 1), (48, .if_icmp .eq 24, 3), (51, .iload_n 2, 1), (52, .iconst 2, 1), (53, .if_icmp .ne 8, 3), (56, .iload_n 3, 1), (57, .iconst 5, 1), (58, .if_icmp .eq 14, 3), (61, .iload_n 2, 1), (62, .iconst 3, 1), (63, .if_icmp .ne 13, 3), (66, .iload_n 3, 1), (67, .bipush 6, 2), (69, .if_icmp .ne 7, 3), (72, .iload_n 3, 1), (73, .goto 5, 3), (76, .bipush (-12), 2), (78, .ireturn, 1)]
theorem td_taken : tb_taken.all (fun q => decide (decode cX12_taken q.1 = .ok (q.2.1, q.2.2))) = true := by decide +kernel
theorem w_taken_b61 {p : Program} {l : Launch} {e : Env} {s : State} {m : MethodId} {args : Array Value} {below : List Frame} {meth : Method} {c : Code} {D : va_G} {o : Nat} {ad : Nat → Nat} {cs : ClassId × ClassId × ClassId} {r : Int32} {st' : mm_S} (C : mm_C p s m args meth c cX12_taken 4 (some .int) D cs) (fu : Nat) (x2 : Int32) (x3 : Int32) (st : mm_S) (hf : M_taken_b61 fu x2 x3 st = some (r, st')) {H : Heap} {locs : List Loc} {ls : Array Slot} (hl : lv_has ls 4 [(0, .ref o), (2, .int x2), (3, .int x3)]) (hM : mm_H D o ad cs s.heap st H locs) : W p l e (mm_R 2 44) s m args below meth c H locs 0 0 (MQ below (mm_Qi D o ad cs r st') args s 0 0 (mm_A o ad)) (F0 m 61 ls []) := by
  unfold M_taken_b61 at hf
  refine lv_iload_n C.1 C.2.1 (dd_at td_taken 36 rfl) rfl (lv_at hl 1 rfl) ?_
  refine lv_iconst (v := (3 : Int32)) C.1 C.2.1 (dd_at td_taken 37 rfl) (by decide) ?_
  refine lv_icmp_ne (tgt := 76) C.1 C.2.1 (dd_at td_taken 38 rfl) (by decide) (fun c17 => ?_) (fun c17 => ?_)
  · replace hf := fc_of_f hf c17
    refine lv_bipush (v := (-12 : Int32)) C.1 C.2.1 (dd_at td_taken 44 rfl) (by decide) ?_
    exact mm_ri C hM (dd_at td_taken 45 rfl) hf
  · replace hf := fc_of_t hf c17
    refine lv_iload_n C.1 C.2.1 (dd_at td_taken 39 rfl) rfl (lv_at hl 2 rfl) ?_
    refine lv_bipush (v := (6 : Int32)) C.1 C.2.1 (dd_at td_taken 40 rfl) (by decide) ?_
    refine lv_icmp_ne (tgt := 76) C.1 C.2.1 (dd_at td_taken 41 rfl) (by decide) (fun c18 => ?_) (fun c18 => ?_)
    · replace hf := fc_of_f hf c18
      refine lv_bipush (v := (-12 : Int32)) C.1 C.2.1 (dd_at td_taken 44 rfl) (by decide) ?_
      exact mm_ri C hM (dd_at td_taken 45 rfl) hf
    · replace hf := fc_of_t hf c18
      refine lv_iload_n C.1 C.2.1 (dd_at td_taken 42 rfl) rfl (lv_at hl 2 rfl) ?_
      refine lv_goto (tgt := 78) C.1 C.2.1 (dd_at td_taken 43 rfl) (by decide) ?_
      exact mm_ri C hM (dd_at td_taken 45 rfl) hf
theorem w_taken_b51 {p : Program} {l : Launch} {e : Env} {s : State} {m : MethodId} {args : Array Value} {below : List Frame} {meth : Method} {c : Code} {D : va_G} {o : Nat} {ad : Nat → Nat} {cs : ClassId × ClassId × ClassId} {r : Int32} {st' : mm_S} (C : mm_C p s m args meth c cX12_taken 4 (some .int) D cs) (fu : Nat) (x2 : Int32) (x3 : Int32) (st : mm_S) (hf : M_taken_b51 fu x2 x3 st = some (r, st')) {H : Heap} {locs : List Loc} {ls : Array Slot} (hl : lv_has ls 4 [(0, .ref o), (2, .int x2), (3, .int x3)]) (hM : mm_H D o ad cs s.heap st H locs) : W p l e (mm_R 2 44) s m args below meth c H locs 0 0 (MQ below (mm_Qi D o ad cs r st') args s 0 0 (mm_A o ad)) (F0 m 51 ls []) := by
  unfold M_taken_b51 at hf
  refine lv_iload_n C.1 C.2.1 (dd_at td_taken 30 rfl) rfl (lv_at hl 1 rfl) ?_
  refine lv_iconst (v := (2 : Int32)) C.1 C.2.1 (dd_at td_taken 31 rfl) (by decide) ?_
  refine lv_icmp_ne (tgt := 61) C.1 C.2.1 (dd_at td_taken 32 rfl) (by decide) (fun c15 => ?_) (fun c15 => ?_)
  · replace hf := fc_of_f hf c15
    exact w_taken_b61 C fu x2 x3 st hf (lv_sub hl [0, 1, 2] rfl) hM
  · replace hf := fc_of_t hf c15
    refine lv_iload_n C.1 C.2.1 (dd_at td_taken 33 rfl) rfl (lv_at hl 2 rfl) ?_
    refine lv_iconst (v := (5 : Int32)) C.1 C.2.1 (dd_at td_taken 34 rfl) (by decide) ?_
    refine lv_icmp_eq (tgt := 72) C.1 C.2.1 (dd_at td_taken 35 rfl) (by decide) (fun c16 => ?_) (fun c16 => ?_)
    · replace hf := fc_of_t hf c16
      refine lv_iload_n C.1 C.2.1 (dd_at td_taken 42 rfl) rfl (lv_at hl 2 rfl) ?_
      refine lv_goto (tgt := 78) C.1 C.2.1 (dd_at td_taken 43 rfl) (by decide) ?_
      exact mm_ri C hM (dd_at td_taken 45 rfl) hf
    · replace hf := fc_of_f hf c16
      exact w_taken_b61 C fu x2 x3 st hf (lv_sub hl [0, 1, 2] rfl) hM
theorem w_taken {p : Program} {l : Launch} {e : Env} {s : State} {m : MethodId} {args : Array Value} {below : List Frame} {meth : Method} {c : Code} {D : va_G} {o : Nat} {ad : Nat → Nat} {cs : ClassId × ClassId × ClassId} {r : Int32} {st' : mm_S} (C : mm_C p s m args meth c cX12_taken 4 (some .int) D cs) (fu : Nat) (x1 : Int32) (x2 : Int32) (st : mm_S) (hf : M_taken fu x1 x2 st = some (r, st')) {H : Heap} {locs : List Loc} {ls : Array Slot} (hl : lv_has ls 4 [(0, .ref o), (1, .int x1), (2, .int x2)]) (hM : mm_H D o ad cs s.heap st H locs) : W p l e (mm_R 2 44) s m args below meth c H locs 0 0 (MQ below (mm_Qi D o ad cs r st') args s 0 0 (mm_A o ad)) (F0 m 0 ls []) := by
  unfold M_taken at hf
  refine lv_aload_n C.1 C.2.1 (dd_at td_taken 0 rfl) rfl (lv_at hl 0 rfl) ?_
  refine lv_iload_n C.1 C.2.1 (dd_at td_taken 1 rfl) rfl (lv_at hl 2 rfl) ?_
  refine lv_iconst (v := (0 : Int32)) C.1 C.2.1 (dd_at td_taken 2 rfl) (by decide) ?_
  refine lv_bipush (v := (6 : Int32)) C.1 C.2.1 (dd_at td_taken 3 rfl) (by decide) ?_
  obtain ⟨r3, st1, hx2, hf⟩ := fc_of_bn hf
  refine mm_ci (As := [.int x2, .int (0 : Int32), .int (6 : Int32)]) (rest := []) (n := 3) C hM (c_in l D o ad cs fu x2 (0 : Int32) (6 : Int32) st) (List.mem_of_getElem? (i := 18) rfl) (dd_at td_taken 4 rfl) hx2 hl.1 hd_in ⟨Nat.le_of_ble_eq_true rfl, Nat.le_of_ble_eq_true rfl⟩ rfl rfl (Nat.le_of_ble_eq_true rfl) ⟨Nat.le_refl 0, Nat.le_refl 0⟩ (fun H locs hM => ?_)
  refine lv_if_ne (tgt := 14) C.1 C.2.1 (dd_at td_taken 5 rfl) (by decide) (fun c4 => ?_) (fun c4 => ?_)
  · replace hf := fc_of_f hf c4
    refine lv_aload_n C.1 C.2.1 (dd_at td_taken 8 rfl) rfl (lv_at hl 0 rfl) ?_
    refine lv_iload_n C.1 C.2.1 (dd_at td_taken 9 rfl) rfl (lv_at hl 1 rfl) ?_
    obtain ⟨r7, st5, hx6, hf⟩ := fc_of_bn hf
    refine mm_ci (As := [.int x1]) (rest := []) (n := 1) C hM (c_isNeed l D o ad cs fu x1 st1) (List.mem_of_getElem? (i := 22) rfl) (dd_at td_taken 10 rfl) hx6 hl.1 hd_isNeed ⟨Nat.le_of_ble_eq_true rfl, Nat.le_of_ble_eq_true rfl⟩ rfl rfl (Nat.le_of_ble_eq_true rfl) ⟨Nat.le_refl 0, Nat.le_refl 0⟩ (fun H locs hM => ?_)
    refine lv_if_ne (tgt := 25) C.1 C.2.1 (dd_at td_taken 11 rfl) (by decide) (fun c8 => ?_) (fun c8 => ?_)
    · replace hf := fc_of_f hf c8
      refine lv_aload_n C.1 C.2.1 (dd_at td_taken 14 rfl) rfl (lv_at hl 0 rfl) ?_
      refine mm_gA C hM 4 (dd_at td_taken 15 rfl) (by decide) (by decide) (by decide) ?_
      refine lv_iload_n C.1 C.2.1 (dd_at td_taken 16 rfl) rfl (lv_at hl 1 rfl) ?_
      obtain ⟨g9, hf⟩ := fc_of_gd hf
      refine mm_iald C hM 4 (dd_at td_taken 17 rfl) (by decide) (by decide) (fc_of_ix g9) ?_
      refine lv_topi (fun v10 ev10 => ?_)
      replace hf := fc_of_nm hf v10 ev10
      refine lv_istore_n (lv' := [(3, .int v10), (0, .ref o), (1, .int x1), (2, .int x2)]) C.1 C.2.1 (dd_at td_taken 18 rfl) rfl hl (by decide) rfl (fun ls hl => ?_)
      refine lv_iload_n C.1 C.2.1 (dd_at td_taken 19 rfl) rfl (lv_at hl 3 rfl) ?_
      refine lv_if_eq (tgt := 72) C.1 C.2.1 (dd_at td_taken 20 rfl) (by decide) (fun c11 => ?_) (fun c11 => ?_)
      · replace hf := fc_of_t hf c11
        refine lv_iload_n C.1 C.2.1 (dd_at td_taken 42 rfl) rfl (lv_at hl 0 rfl) ?_
        refine lv_goto (tgt := 78) C.1 C.2.1 (dd_at td_taken 43 rfl) (by decide) ?_
        exact mm_ri C hM (dd_at td_taken 45 rfl) hf
      · replace hf := fc_of_f hf c11
        refine lv_iload_n C.1 C.2.1 (dd_at td_taken 21 rfl) rfl (lv_at hl 0 rfl) ?_
        refine lv_iload_n C.1 C.2.1 (dd_at td_taken 22 rfl) rfl (lv_at hl 3 rfl) ?_
        refine lv_icmp_eq (tgt := 72) C.1 C.2.1 (dd_at td_taken 23 rfl) (by decide) (fun c12 => ?_) (fun c12 => ?_)
        · replace hf := fc_of_t hf c12
          refine lv_iload_n C.1 C.2.1 (dd_at td_taken 42 rfl) rfl (lv_at hl 0 rfl) ?_
          refine lv_goto (tgt := 78) C.1 C.2.1 (dd_at td_taken 43 rfl) (by decide) ?_
          exact mm_ri C hM (dd_at td_taken 45 rfl) hf
        · replace hf := fc_of_f hf c12
          refine lv_iload_n C.1 C.2.1 (dd_at td_taken 24 rfl) rfl (lv_at hl 3 rfl) ?_
          refine lv_iconst (v := (1 : Int32)) C.1 C.2.1 (dd_at td_taken 25 rfl) (by decide) ?_
          refine lv_icmp_ne (tgt := 51) C.1 C.2.1 (dd_at td_taken 26 rfl) (by decide) (fun c13 => ?_) (fun c13 => ?_)
          · replace hf := fc_of_f hf c13
            exact w_taken_b51 C fu x2 v10 st5 hf (lv_sub hl [1, 3, 0] rfl) hM
          · replace hf := fc_of_t hf c13
            refine lv_iload_n C.1 C.2.1 (dd_at td_taken 27 rfl) rfl (lv_at hl 0 rfl) ?_
            refine lv_iconst (v := (4 : Int32)) C.1 C.2.1 (dd_at td_taken 28 rfl) (by decide) ?_
            refine lv_icmp_eq (tgt := 72) C.1 C.2.1 (dd_at td_taken 29 rfl) (by decide) (fun c14 => ?_) (fun c14 => ?_)
            · replace hf := fc_of_t hf c14
              refine lv_iload_n C.1 C.2.1 (dd_at td_taken 42 rfl) rfl (lv_at hl 0 rfl) ?_
              refine lv_goto (tgt := 78) C.1 C.2.1 (dd_at td_taken 43 rfl) (by decide) ?_
              exact mm_ri C hM (dd_at td_taken 45 rfl) hf
            · replace hf := fc_of_f hf c14
              exact w_taken_b51 C fu x2 v10 st5 hf (lv_sub hl [1, 3, 0] rfl) hM
    · replace hf := fc_of_t hf c8
      refine lv_bipush (v := (-11 : Int32)) C.1 C.2.1 (dd_at td_taken 12 rfl) (by decide) ?_
      exact mm_ri C hM (dd_at td_taken 13 rfl) hf
  · replace hf := fc_of_t hf c4
    refine lv_bipush (v := (-2 : Int32)) C.1 C.2.1 (dd_at td_taken 6 rfl) (by decide) ?_
    exact mm_ri C hM (dd_at td_taken 7 rfl) hf
theorem c_taken (l : Launch) (D : va_G) (o : Nat) (ad : Nat → Nat) (cs : ClassId × ClassId × ClassId) (fu : Nat) (x1 : Int32) (x2 : Int32) (st : mm_S) : mm_Mi l D o ad cs yX12_taken cX12_taken 4 (some .int) 2 44 [.int x1, .int x2] st (M_taken fu x1 x2 st) := by
  intro r st' hf
  refine mm_enter (cc := cX12_taken) (nL := 4) (ret := some .int) (by decide) rfl (Nat.le_of_ble_eq_true rfl) ?_
  intro p e s m args below meth c ls C hl hM
  exact w_taken C fu x1 x2 st hf hl hM

/-! count -/
def tb_count : List (Nat × Instr × Nat) := [(0, .iload_n 1, 1), (1, .tableswitch 78 0 6 #[43, 48, 53, 58, 63, 68, 73], 43), (44, .aload_n 0, 1), (45, .getfield 7, 3), (48, .ireturn, 1), (49, .aload_n 0, 1), (50, .getfield 35, 3), (53, .ireturn, 1), (54, .aload_n 0, 1), (55, .getfield 100, 3), (58, .ireturn, 1), (59, .aload_n 0, 1), (60, .getfield 106, 3), (63, .ireturn, 1), (64, .aload_n 0, 1), (65, .getfield 109, 3), (68, .ireturn, 1), (69, .aload_n 0, 1), (70, .getfield 41, 3), (73, .ireturn, 1), (74, .aload_n 0, 1), (75, .getfield 185, 3), (78, .ireturn, 1), (79, .bipush (-2), 2), (81, .ireturn, 1)]
theorem td_count : tb_count.all (fun q => decide (decode cX12_count q.1 = .ok (q.2.1, q.2.2))) = true := by decide +kernel
theorem w_count {p : Program} {l : Launch} {e : Env} {s : State} {m : MethodId} {args : Array Value} {below : List Frame} {meth : Method} {c : Code} {D : va_G} {o : Nat} {ad : Nat → Nat} {cs : ClassId × ClassId × ClassId} {r : Int32} {st' : mm_S} (C : mm_C p s m args meth c cX12_count 2 (some .int) D cs) (fu : Nat) (x1 : Int32) (st : mm_S) (hf : M_count fu x1 st = some (r, st')) {H : Heap} {locs : List Loc} {ls : Array Slot} (hl : lv_has ls 2 [(0, .ref o), (1, .int x1)]) (hM : mm_H D o ad cs s.heap st H locs) : W p l e (mm_R 0 0) s m args below meth c H locs 0 0 (MQ below (mm_Qi D o ad cs r st') args s 0 0 (mm_A o ad)) (F0 m 0 ls []) := by
  unfold M_count at hf
  refine lv_iload_n C.1 C.2.1 (dd_at td_count 0 rfl) rfl (lv_at hl 1 rfl) ?_
  by_cases c1 : x1 = (0 : Int32)
  · replace hf := fc_of_t hf c1
    refine lv_tableIn (off := 43) (tgt := 44) C.1 C.2.1 (dd_at td_count 1 rfl) (by rw [c1]; decide) (by rw [c1]; decide) (by rw [c1]; decide) (by decide) ?_
    refine lv_aload_n C.1 C.2.1 (dd_at td_count 2 rfl) rfl (lv_at hl 0 rfl) ?_
    refine mm_gI C hM 0 (dd_at td_count 3 rfl) (by decide) (by decide) (by decide) ?_
    exact mm_ri C hM (dd_at td_count 4 rfl) hf
  · replace hf := fc_of_f hf c1
    by_cases c2 : x1 = (1 : Int32)
    · replace hf := fc_of_t hf c2
      refine lv_tableIn (off := 48) (tgt := 49) C.1 C.2.1 (dd_at td_count 1 rfl) (by rw [c2]; decide) (by rw [c2]; decide) (by rw [c2]; decide) (by decide) ?_
      refine lv_aload_n C.1 C.2.1 (dd_at td_count 5 rfl) rfl (lv_at hl 0 rfl) ?_
      refine mm_gI C hM 8 (dd_at td_count 6 rfl) (by decide) (by decide) (by decide) ?_
      exact mm_ri C hM (dd_at td_count 7 rfl) hf
    · replace hf := fc_of_f hf c2
      by_cases c3 : x1 = (2 : Int32)
      · replace hf := fc_of_t hf c3
        refine lv_tableIn (off := 53) (tgt := 54) C.1 C.2.1 (dd_at td_count 1 rfl) (by rw [c3]; decide) (by rw [c3]; decide) (by rw [c3]; decide) (by decide) ?_
        refine lv_aload_n C.1 C.2.1 (dd_at td_count 8 rfl) rfl (lv_at hl 0 rfl) ?_
        refine mm_gI C hM 29 (dd_at td_count 9 rfl) (by decide) (by decide) (by decide) ?_
        exact mm_ri C hM (dd_at td_count 10 rfl) hf
      · replace hf := fc_of_f hf c3
        by_cases c4 : x1 = (3 : Int32)
        · replace hf := fc_of_t hf c4
          refine lv_tableIn (off := 58) (tgt := 59) C.1 C.2.1 (dd_at td_count 1 rfl) (by rw [c4]; decide) (by rw [c4]; decide) (by rw [c4]; decide) (by decide) ?_
          refine lv_aload_n C.1 C.2.1 (dd_at td_count 11 rfl) rfl (lv_at hl 0 rfl) ?_
          refine mm_gI C hM 31 (dd_at td_count 12 rfl) (by decide) (by decide) (by decide) ?_
          exact mm_ri C hM (dd_at td_count 13 rfl) hf
        · replace hf := fc_of_f hf c4
          by_cases c5 : x1 = (4 : Int32)
          · replace hf := fc_of_t hf c5
            refine lv_tableIn (off := 63) (tgt := 64) C.1 C.2.1 (dd_at td_count 1 rfl) (by rw [c5]; decide) (by rw [c5]; decide) (by rw [c5]; decide) (by decide) ?_
            refine lv_aload_n C.1 C.2.1 (dd_at td_count 14 rfl) rfl (lv_at hl 0 rfl) ?_
            refine mm_gI C hM 32 (dd_at td_count 15 rfl) (by decide) (by decide) (by decide) ?_
            exact mm_ri C hM (dd_at td_count 16 rfl) hf
          · replace hf := fc_of_f hf c5
            by_cases c6 : x1 = (5 : Int32)
            · replace hf := fc_of_t hf c6
              refine lv_tableIn (off := 68) (tgt := 69) C.1 C.2.1 (dd_at td_count 1 rfl) (by rw [c6]; decide) (by rw [c6]; decide) (by rw [c6]; decide) (by decide) ?_
              refine lv_aload_n C.1 C.2.1 (dd_at td_count 17 rfl) rfl (lv_at hl 0 rfl) ?_
              refine mm_gI C hM 10 (dd_at td_count 18 rfl) (by decide) (by decide) (by decide) ?_
              exact mm_ri C hM (dd_at td_count 19 rfl) hf
            · replace hf := fc_of_f hf c6
              by_cases c7 : x1 = (6 : Int32)
              · replace hf := fc_of_t hf c7
                refine lv_tableIn (off := 73) (tgt := 74) C.1 C.2.1 (dd_at td_count 1 rfl) (by rw [c7]; decide) (by rw [c7]; decide) (by rw [c7]; decide) (by decide) ?_
                refine lv_aload_n C.1 C.2.1 (dd_at td_count 20 rfl) rfl (lv_at hl 0 rfl) ?_
                refine mm_gI C hM 57 (dd_at td_count 21 rfl) (by decide) (by decide) (by decide) ?_
                exact mm_ri C hM (dd_at td_count 22 rfl) hf
              · replace hf := fc_of_f hf c7
                refine lv_tableOut (tgt := 79) C.1 C.2.1 (dd_at td_count 1 rfl) (by have q0 := lv_neT c1 (a := 0) (by decide); have q1 := lv_neT c2 (a := 1) (by decide); have q2 := lv_neT c3 (a := 2) (by decide); have q3 := lv_neT c4 (a := 3) (by decide); have q4 := lv_neT c5 (a := 4) (by decide); have q5 := lv_neT c6 (a := 5) (by decide); have q6 := lv_neT c7 (a := 6) (by decide); omega) (by decide) ?_
                refine lv_bipush (v := (-2 : Int32)) C.1 C.2.1 (dd_at td_count 23 rfl) (by decide) ?_
                exact mm_ri C hM (dd_at td_count 24 rfl) hf
theorem c_count (l : Launch) (D : va_G) (o : Nat) (ad : Nat → Nat) (cs : ClassId × ClassId × ClassId) (fu : Nat) (x1 : Int32) (st : mm_S) : mm_Mi l D o ad cs yX12_count cX12_count 2 (some .int) 0 0 [.int x1] st (M_count fu x1 st) := by
  intro r st' hf
  refine mm_enter (cc := cX12_count) (nL := 2) (ret := some .int) (by decide) rfl (Nat.le_of_ble_eq_true rfl) ?_
  intro p e s m args below meth c ls C hl hM
  exact w_count C fu x1 st hf hl hM
end
section
/-! tape -/
def tb_tape : List (Nat × Instr × Nat) := [(0, .aload_n 0, 1), (1, .iload_n 1, 1), (2, .invokevirtual 343, 3), (5, .ifCond .ne 5, 3), (8, .iconst (-1), 1), (9, .ireturn, 1), (10, .aload_n 0, 1), (11, .iload_n 2, 1), (12, .iconst (-1), 1), (13, .iconst 4, 1), (14, .invokevirtual 207, 3), (17, .ifCond .eq 13, 3), (20, .iload_n 2, 1), (21, .ifCond .lt 12, 3), (24, .iload_n 3, 1), (25, .bipush 60, 2), (27, .if_icmp .le 6, 3), (30, .bipush (-2), 2), (32, .ireturn, 1), (33, .iload_n 2, 1), (34, .ifCond .lt 10, 3), (37, .iload_n 3, 1), (38, .ifCond .ge 6, 3), (41, .bipush (-14), 2), (43, .ireturn, 1), (44, .aload_n 0, 1), (45, .getfield 191, 3), (48, .iload_n 1, 1), (49, .iload_n 2, 1), (50, .iastore, 1), (51, .aload_n 0, 1), (52, .getfield 194, 3), (55, .iload_n 1, 1), (56, .iload_n 2, 1), (57, .ifCond .ge 7, 3), (60, .iconst 0, 1), (61, .goto 4, 3), (64, .iload_n 3, 1), (65, .iastore, 1), (66, .iconst 0, 1), (67, .istore 4, 2), (69, .iload 4, 2), (71, .bipush 60, 2), (73, .if_icmp .ge 22, 3), (76, .aload_n 0, 1), (77, .getfield 197, 3), (80, .bipush 60, 2), (82, .iload_n 1, 1), (83, .imul, 1), (84, .iload 4, 2), (86, .iadd, 1), (87, .lconst 0, 1), (88, .lastore, 1), (89, .iinc 4 1, 3), (92, .goto (-23), 3), (95, .iconst 1, 1), (96, .ireturn, 1)]
theorem td_tape : tb_tape.all (fun q => decide (decode cX12_tape q.1 = .ok (q.2.1, q.2.2))) = true := by decide +kernel
theorem w_tape_b69F {p : Program} {l : Launch} {e : Env} {s : State} {m : MethodId} {args : Array Value} {below : List Frame} {meth : Method} {c : Code} {D : va_G} {o : Nat} {ad : Nat → Nat} {cs : ClassId × ClassId × ClassId} {r : Int32} {st' : mm_S} (C : mm_C p s m args meth c cX12_tape 5 (some .int) D cs) (fu : Nat) (K69 : Int32 → Int32 → mm_S → Option (Int32 × mm_S)) (hK69 : ∀ (x1 : Int32) (x4 : Int32) (st : mm_S) (H : Heap) (locs : List Loc) (ls : Array Slot), K69 x1 x4 st = some (r, st') → lv_has ls 5 [(0, .ref o), (1, .int x1), (4, .int x4)] → mm_H D o ad cs s.heap st H locs → W p l e (mm_R 2 44) s m args below meth c H locs 0 0 (MQ below (mm_Qi D o ad cs r st') args s 0 0 (mm_A o ad)) (F0 m 69 ls [])) (x1 : Int32) (x4 : Int32) (st : mm_S) (hf : M_tape_b69F fu K69 x1 x4 st = some (r, st')) {H : Heap} {locs : List Loc} {ls : Array Slot} (hl : lv_has ls 5 [(0, .ref o), (1, .int x1), (4, .int x4)]) (hM : mm_H D o ad cs s.heap st H locs) : W p l e (mm_R 2 44) s m args below meth c H locs 0 0 (MQ below (mm_Qi D o ad cs r st') args s 0 0 (mm_A o ad)) (F0 m 69 ls []) := by
  unfold M_tape_b69F at hf
  refine lv_iload C.1 C.2.1 (dd_at td_tape 41 rfl) (lv_at hl 2 rfl) ?_
  refine lv_bipush (v := (60 : Int32)) C.1 C.2.1 (dd_at td_tape 42 rfl) (by decide) ?_
  refine lv_icmp_ge (tgt := 95) C.1 C.2.1 (dd_at td_tape 43 rfl) (by decide) (fun c18 => ?_) (fun c18 => ?_)
  · replace hf := fc_of_t hf c18
    refine lv_iconst (v := (1 : Int32)) C.1 C.2.1 (dd_at td_tape 55 rfl) (by decide) ?_
    exact mm_ri C hM (dd_at td_tape 56 rfl) hf
  · replace hf := fc_of_f hf c18
    refine lv_aload_n C.1 C.2.1 (dd_at td_tape 44 rfl) rfl (lv_at hl 0 rfl) ?_
    refine mm_gA C hM 61 (dd_at td_tape 45 rfl) (by decide) (by decide) (by decide) ?_
    refine lv_bipush (v := (60 : Int32)) C.1 C.2.1 (dd_at td_tape 46 rfl) (by decide) ?_
    refine lv_iload_n C.1 C.2.1 (dd_at td_tape 47 rfl) rfl (lv_at hl 1 rfl) ?_
    refine lv_imul C.1 C.2.1 (dd_at td_tape 48 rfl) ?_
    refine lv_iload C.1 C.2.1 (dd_at td_tape 49 rfl) (lv_at hl 2 rfl) ?_
    refine lv_iadd C.1 C.2.1 (dd_at td_tape 50 rfl) ?_
    refine lv_lconst (v := (0 : Int64)) C.1 C.2.1 (dd_at td_tape 51 rfl) (by decide) ?_
    obtain ⟨g19, hf⟩ := fc_of_gd hf
    refine mm_last C hM 61 (dd_at td_tape 52 rfl) (by decide) (by decide) (fc_of_ix g19) (fun st20 H locs est20 hM => ?_)
    replace hf := fc_of_nm hf st20 est20
    obtain ⟨v21, ev21⟩ : ∃ y : Int32, y = x4 + (1 : Int32) := ⟨_, rfl⟩
    replace hf := fc_of_nm hf v21 ev21
    refine lv_iinc (v := v21) (lv' := [(4, .int v21), (0, .ref o), (1, .int x1)]) C.1 C.2.1 (dd_at td_tape 53 rfl) hl (k := 2) rfl (by rw [ev21]; rfl) (by decide) rfl (fun ls hl => ?_)
    refine lv_goto (tgt := 69) C.1 C.2.1 (dd_at td_tape 54 rfl) (by decide) ?_
    exact hK69 x1 v21 st20 _ _ _ hf (lv_sub hl [1, 2, 0] rfl) hM
theorem w_tape_b69 {p : Program} {l : Launch} {e : Env} {s : State} {m : MethodId} {args : Array Value} {below : List Frame} {meth : Method} {c : Code} {D : va_G} {o : Nat} {ad : Nat → Nat} {cs : ClassId × ClassId × ClassId} {r : Int32} {st' : mm_S} (C : mm_C p s m args meth c cX12_tape 5 (some .int) D cs) (fu : Nat) (n : Nat) : ∀ (x1 : Int32) (x4 : Int32) (st : mm_S), M_tape_b69 fu n x1 x4 st = some (r, st') → ∀ (H : Heap) (locs : List Loc) (ls : Array Slot), lv_has ls 5 [(0, .ref o), (1, .int x1), (4, .int x4)] → mm_H D o ad cs s.heap st H locs → W p l e (mm_R 2 44) s m args below meth c H locs 0 0 (MQ below (mm_Qi D o ad cs r st') args s 0 0 (mm_A o ad)) (F0 m 69 ls []) := by
  induction n with
  | zero => exact fun _ _ _ hf => fc_no hf
  | succ n ih =>
    intro x1 x4 st hf H locs ls hl hM
    exact w_tape_b69F C fu (fun x1 x4 st => M_tape_b69 fu n x1 x4 st) (fun x1 x4 st H locs ls hf hl hM => ih x1 x4 st hf H locs ls hl hM) x1 x4 st hf hl hM
theorem w_tape_b65 {p : Program} {l : Launch} {e : Env} {s : State} {m : MethodId} {args : Array Value} {below : List Frame} {meth : Method} {c : Code} {D : va_G} {o : Nat} {ad : Nat → Nat} {cs : ClassId × ClassId × ClassId} {r : Int32} {st' : mm_S} (C : mm_C p s m args meth c cX12_tape 5 (some .int) D cs) (fu : Nat) (x1 : Int32) (s0 : Int32) (s1 : Int32) (st : mm_S) (hf : M_tape_b65 fu x1 s0 s1 st = some (r, st')) {H : Heap} {locs : List Loc} {ls : Array Slot} (hl : lv_has ls 5 [(0, .ref o), (1, .int x1)]) (hM : mm_H D o ad cs s.heap st H locs) : W p l e (mm_R 2 44) s m args below meth c H locs 0 0 (MQ below (mm_Qi D o ad cs r st') args s 0 0 (mm_A o ad)) (F0 m 65 ls [.int s0, .int s1, .ref (ad 60)]) := by
  unfold M_tape_b65 at hf
  obtain ⟨g16, hf⟩ := fc_of_gd hf
  refine mm_iast C hM 60 (dd_at td_tape 38 rfl) (by decide) (by decide) (fc_of_ix g16) (fun st17 H locs est17 hM => ?_)
  replace hf := fc_of_nm hf st17 est17
  refine lv_iconst (v := (0 : Int32)) C.1 C.2.1 (dd_at td_tape 39 rfl) (by decide) ?_
  refine lv_istore (lv' := [(4, .int (0 : Int32)), (0, .ref o), (1, .int x1)]) C.1 C.2.1 (dd_at td_tape 40 rfl) hl (by decide) rfl (fun ls hl => ?_)
  exact w_tape_b69 C fu fu x1 (0 : Int32) st17 hf _ _ _ (lv_sub hl [1, 2, 0] rfl) hM
theorem w_tape_b44 {p : Program} {l : Launch} {e : Env} {s : State} {m : MethodId} {args : Array Value} {below : List Frame} {meth : Method} {c : Code} {D : va_G} {o : Nat} {ad : Nat → Nat} {cs : ClassId × ClassId × ClassId} {r : Int32} {st' : mm_S} (C : mm_C p s m args meth c cX12_tape 5 (some .int) D cs) (fu : Nat) (x1 : Int32) (x2 : Int32) (x3 : Int32) (st : mm_S) (hf : M_tape_b44 fu x1 x2 x3 st = some (r, st')) {H : Heap} {locs : List Loc} {ls : Array Slot} (hl : lv_has ls 5 [(0, .ref o), (1, .int x1), (2, .int x2), (3, .int x3)]) (hM : mm_H D o ad cs s.heap st H locs) : W p l e (mm_R 2 44) s m args below meth c H locs 0 0 (MQ below (mm_Qi D o ad cs r st') args s 0 0 (mm_A o ad)) (F0 m 44 ls []) := by
  unfold M_tape_b44 at hf
  refine lv_aload_n C.1 C.2.1 (dd_at td_tape 25 rfl) rfl (lv_at hl 0 rfl) ?_
  refine mm_gA C hM 59 (dd_at td_tape 26 rfl) (by decide) (by decide) (by decide) ?_
  refine lv_iload_n C.1 C.2.1 (dd_at td_tape 27 rfl) rfl (lv_at hl 1 rfl) ?_
  refine lv_iload_n C.1 C.2.1 (dd_at td_tape 28 rfl) rfl (lv_at hl 2 rfl) ?_
  obtain ⟨g13, hf⟩ := fc_of_gd hf
  refine mm_iast C hM 59 (dd_at td_tape 29 rfl) (by decide) (by decide) (fc_of_ix g13) (fun st14 H locs est14 hM => ?_)
  replace hf := fc_of_nm hf st14 est14
  refine lv_aload_n C.1 C.2.1 (dd_at td_tape 30 rfl) rfl (lv_at hl 0 rfl) ?_
  refine mm_gA C hM 60 (dd_at td_tape 31 rfl) (by decide) (by decide) (by decide) ?_
  refine lv_iload_n C.1 C.2.1 (dd_at td_tape 32 rfl) rfl (lv_at hl 1 rfl) ?_
  refine lv_iload_n C.1 C.2.1 (dd_at td_tape 33 rfl) rfl (lv_at hl 2 rfl) ?_
  refine lv_if_ge (tgt := 64) C.1 C.2.1 (dd_at td_tape 34 rfl) (by decide) (fun c15 => ?_) (fun c15 => ?_)
  · replace hf := fc_of_t hf c15
    refine lv_iload_n C.1 C.2.1 (dd_at td_tape 37 rfl) rfl (lv_at hl 3 rfl) ?_
    exact w_tape_b65 C fu x1 x3 x1 st14 hf (lv_sub hl [0, 1] rfl) hM
  · replace hf := fc_of_f hf c15
    refine lv_iconst (v := (0 : Int32)) C.1 C.2.1 (dd_at td_tape 35 rfl) (by decide) ?_
    refine lv_goto (tgt := 65) C.1 C.2.1 (dd_at td_tape 36 rfl) (by decide) ?_
    exact w_tape_b65 C fu x1 (0 : Int32) x1 st14 hf (lv_sub hl [0, 1] rfl) hM
theorem w_tape_b33 {p : Program} {l : Launch} {e : Env} {s : State} {m : MethodId} {args : Array Value} {below : List Frame} {meth : Method} {c : Code} {D : va_G} {o : Nat} {ad : Nat → Nat} {cs : ClassId × ClassId × ClassId} {r : Int32} {st' : mm_S} (C : mm_C p s m args meth c cX12_tape 5 (some .int) D cs) (fu : Nat) (x1 : Int32) (x2 : Int32) (x3 : Int32) (st : mm_S) (hf : M_tape_b33 fu x1 x2 x3 st = some (r, st')) {H : Heap} {locs : List Loc} {ls : Array Slot} (hl : lv_has ls 5 [(0, .ref o), (1, .int x1), (2, .int x2), (3, .int x3)]) (hM : mm_H D o ad cs s.heap st H locs) : W p l e (mm_R 2 44) s m args below meth c H locs 0 0 (MQ below (mm_Qi D o ad cs r st') args s 0 0 (mm_A o ad)) (F0 m 33 ls []) := by
  unfold M_tape_b33 at hf
  refine lv_iload_n C.1 C.2.1 (dd_at td_tape 19 rfl) rfl (lv_at hl 2 rfl) ?_
  refine lv_if_lt (tgt := 44) C.1 C.2.1 (dd_at td_tape 20 rfl) (by decide) (fun c11 => ?_) (fun c11 => ?_)
  · replace hf := fc_of_t hf c11
    exact w_tape_b44 C fu x1 x2 x3 st hf (lv_sub hl [0, 1, 2, 3] rfl) hM
  · replace hf := fc_of_f hf c11
    refine lv_iload_n C.1 C.2.1 (dd_at td_tape 21 rfl) rfl (lv_at hl 3 rfl) ?_
    refine lv_if_ge (tgt := 44) C.1 C.2.1 (dd_at td_tape 22 rfl) (by decide) (fun c12 => ?_) (fun c12 => ?_)
    · replace hf := fc_of_t hf c12
      exact w_tape_b44 C fu x1 x2 x3 st hf (lv_sub hl [0, 1, 2, 3] rfl) hM
    · replace hf := fc_of_f hf c12
      refine lv_bipush (v := (-14 : Int32)) C.1 C.2.1 (dd_at td_tape 23 rfl) (by decide) ?_
      exact mm_ri C hM (dd_at td_tape 24 rfl) hf
theorem w_tape {p : Program} {l : Launch} {e : Env} {s : State} {m : MethodId} {args : Array Value} {below : List Frame} {meth : Method} {c : Code} {D : va_G} {o : Nat} {ad : Nat → Nat} {cs : ClassId × ClassId × ClassId} {r : Int32} {st' : mm_S} (C : mm_C p s m args meth c cX12_tape 5 (some .int) D cs) (fu : Nat) (x1 : Int32) (x2 : Int32) (x3 : Int32) (st : mm_S) (hf : M_tape fu x1 x2 x3 st = some (r, st')) {H : Heap} {locs : List Loc} {ls : Array Slot} (hl : lv_has ls 5 [(0, .ref o), (1, .int x1), (2, .int x2), (3, .int x3)]) (hM : mm_H D o ad cs s.heap st H locs) : W p l e (mm_R 2 44) s m args below meth c H locs 0 0 (MQ below (mm_Qi D o ad cs r st') args s 0 0 (mm_A o ad)) (F0 m 0 ls []) := by
  unfold M_tape at hf
  refine lv_aload_n C.1 C.2.1 (dd_at td_tape 0 rfl) rfl (lv_at hl 0 rfl) ?_
  refine lv_iload_n C.1 C.2.1 (dd_at td_tape 1 rfl) rfl (lv_at hl 1 rfl) ?_
  obtain ⟨r3, st1, hx2, hf⟩ := fc_of_bn hf
  refine mm_ci (As := [.int x1]) (rest := []) (n := 1) C hM (c_isTape l D o ad cs fu x1 st) (List.mem_of_getElem? (i := 24) rfl) (dd_at td_tape 2 rfl) hx2 hl.1 hd_isTape ⟨Nat.le_of_ble_eq_true rfl, Nat.le_of_ble_eq_true rfl⟩ rfl rfl (Nat.le_of_ble_eq_true rfl) ⟨Nat.le_refl 0, Nat.le_refl 0⟩ (fun H locs hM => ?_)
  refine lv_if_ne (tgt := 10) C.1 C.2.1 (dd_at td_tape 3 rfl) (by decide) (fun c4 => ?_) (fun c4 => ?_)
  · replace hf := fc_of_f hf c4
    refine lv_aload_n C.1 C.2.1 (dd_at td_tape 6 rfl) rfl (lv_at hl 0 rfl) ?_
    refine lv_iload_n C.1 C.2.1 (dd_at td_tape 7 rfl) rfl (lv_at hl 2 rfl) ?_
    refine lv_iconst (v := (-1 : Int32)) C.1 C.2.1 (dd_at td_tape 8 rfl) (by decide) ?_
    refine lv_iconst (v := (4 : Int32)) C.1 C.2.1 (dd_at td_tape 9 rfl) (by decide) ?_
    obtain ⟨r7, st5, hx6, hf⟩ := fc_of_bn hf
    refine mm_ci (As := [.int x2, .int (-1 : Int32), .int (4 : Int32)]) (rest := []) (n := 3) C hM (c_in l D o ad cs fu x2 (-1 : Int32) (4 : Int32) st1) (List.mem_of_getElem? (i := 18) rfl) (dd_at td_tape 10 rfl) hx6 hl.1 hd_in ⟨Nat.le_of_ble_eq_true rfl, Nat.le_of_ble_eq_true rfl⟩ rfl rfl (Nat.le_of_ble_eq_true rfl) ⟨Nat.le_refl 0, Nat.le_refl 0⟩ (fun H locs hM => ?_)
    refine lv_if_eq (tgt := 30) C.1 C.2.1 (dd_at td_tape 11 rfl) (by decide) (fun c8 => ?_) (fun c8 => ?_)
    · replace hf := fc_of_t hf c8
      refine lv_bipush (v := (-2 : Int32)) C.1 C.2.1 (dd_at td_tape 17 rfl) (by decide) ?_
      exact mm_ri C hM (dd_at td_tape 18 rfl) hf
    · replace hf := fc_of_f hf c8
      refine lv_iload_n C.1 C.2.1 (dd_at td_tape 12 rfl) rfl (lv_at hl 2 rfl) ?_
      refine lv_if_lt (tgt := 33) C.1 C.2.1 (dd_at td_tape 13 rfl) (by decide) (fun c9 => ?_) (fun c9 => ?_)
      · replace hf := fc_of_t hf c9
        exact w_tape_b33 C fu x1 x2 x3 st5 hf (lv_sub hl [0, 1, 2, 3] rfl) hM
      · replace hf := fc_of_f hf c9
        refine lv_iload_n C.1 C.2.1 (dd_at td_tape 14 rfl) rfl (lv_at hl 3 rfl) ?_
        refine lv_bipush (v := (60 : Int32)) C.1 C.2.1 (dd_at td_tape 15 rfl) (by decide) ?_
        refine lv_icmp_le (tgt := 33) C.1 C.2.1 (dd_at td_tape 16 rfl) (by decide) (fun c10 => ?_) (fun c10 => ?_)
        · replace hf := fc_of_t hf c10
          exact w_tape_b33 C fu x1 x2 x3 st5 hf (lv_sub hl [0, 1, 2, 3] rfl) hM
        · replace hf := fc_of_f hf c10
          refine lv_bipush (v := (-2 : Int32)) C.1 C.2.1 (dd_at td_tape 17 rfl) (by decide) ?_
          exact mm_ri C hM (dd_at td_tape 18 rfl) hf
  · replace hf := fc_of_t hf c4
    refine lv_iconst (v := (-1 : Int32)) C.1 C.2.1 (dd_at td_tape 4 rfl) (by decide) ?_
    exact mm_ri C hM (dd_at td_tape 5 rfl) hf
theorem c_tape (l : Launch) (D : va_G) (o : Nat) (ad : Nat → Nat) (cs : ClassId × ClassId × ClassId) (fu : Nat) (x1 : Int32) (x2 : Int32) (x3 : Int32) (st : mm_S) : mm_Mi l D o ad cs yX12_tape cX12_tape 5 (some .int) 2 44 [.int x1, .int x2, .int x3] st (M_tape fu x1 x2 x3 st) := by
  intro r st' hf
  refine mm_enter (cc := cX12_tape) (nL := 5) (ret := some .int) (by decide) rfl (Nat.le_of_ble_eq_true rfl) ?_
  intro p e s m args below meth c ls C hl hM
  exact w_tape C fu x1 x2 x3 st hf hl hM

/-! narrow -/
def tb_narrow : List (Nat × Instr × Nat) := [(0, .iload_n 1, 1), (1, .ifCond .ne 10, 3), (4, .lload_n 2, 1), (5, .l2i, 1), (6, .i2b, 1), (7, .i2l, 1), (8, .goto 46, 3), (11, .iload_n 1, 1), (12, .iconst 1, 1), (13, .if_icmp .ne 10, 3), (16, .lload_n 2, 1), (17, .l2i, 1), (18, .i2s, 1), (19, .i2l, 1), (20, .goto 34, 3), (23, .iload_n 1, 1), (24, .iconst 2, 1), (25, .if_icmp .ne 9, 3), (28, .lload_n 2, 1), (29, .l2i, 1), (30, .i2l, 1), (31, .goto 23, 3), (34, .iload_n 1, 1), (35, .iconst 4, 1), (36, .if_icmp .ne 17, 3), (39, .lload_n 2, 1), (40, .lconst 0, 1), (41, .lcmp, 1), (42, .ifCond .eq 7, 3), (45, .lconst 1, 1), (46, .goto 8, 3), (49, .lconst 0, 1), (50, .goto 4, 3), (53, .lload_n 2, 1), (54, .lreturn, 1)]
theorem td_narrow : tb_narrow.all (fun q => decide (decode cX12_narrow q.1 = .ok (q.2.1, q.2.2))) = true := by decide +kernel
theorem hd_narrow : yX12_narrow.cls = RX12 ∧ yX12_narrow.cls ≠ "java/lang/invoke/MethodHandle" ∧ yX12_narrow.cls ≠ "java/lang/invoke/VarHandle" ∧ (parseMethodDescriptor yX12_narrow.desc).map (fun d => d.parameters.length) = some 2 := by decide +kernel
theorem w_narrow {p : Program} {l : Launch} {e : Env} {s : State} {m : MethodId} {args : Array Value} {below : List Frame} {meth : Method} {c : Code} {D : va_G} {o : Nat} {ad : Nat → Nat} {cs : ClassId × ClassId × ClassId} {r : Int64} {st' : mm_S} (C : mm_C p s m args meth c cX12_narrow 4 (some .long) D cs) (fu : Nat) (x1 : Int32) (x2 : Int64) (st : mm_S) (hf : M_narrow fu x1 x2 st = some (r, st')) {H : Heap} {locs : List Loc} {ls : Array Slot} (hl : lv_has ls 4 [(0, .ref o), (1, .int x1), (2, .long x2)]) (hM : mm_H D o ad cs s.heap st H locs) : W p l e (mm_R 0 0) s m args below meth c H locs 0 0 (MQ below (mm_Ql D o ad cs r st') args s 0 0 (mm_A o ad)) (F0 m 0 ls []) := by
  unfold M_narrow at hf
  refine lv_iload_n C.1 C.2.1 (dd_at td_narrow 0 rfl) rfl (lv_at hl 1 rfl) ?_
  refine lv_if_ne (tgt := 11) C.1 C.2.1 (dd_at td_narrow 1 rfl) (by decide) (fun c1 => ?_) (fun c1 => ?_)
  · replace hf := fc_of_f hf c1
    refine lv_iload_n C.1 C.2.1 (dd_at td_narrow 7 rfl) rfl (lv_at hl 1 rfl) ?_
    refine lv_iconst (v := (1 : Int32)) C.1 C.2.1 (dd_at td_narrow 8 rfl) (by decide) ?_
    refine lv_icmp_ne (tgt := 23) C.1 C.2.1 (dd_at td_narrow 9 rfl) (by decide) (fun c2 => ?_) (fun c2 => ?_)
    · replace hf := fc_of_f hf c2
      refine lv_iload_n C.1 C.2.1 (dd_at td_narrow 15 rfl) rfl (lv_at hl 1 rfl) ?_
      refine lv_iconst (v := (2 : Int32)) C.1 C.2.1 (dd_at td_narrow 16 rfl) (by decide) ?_
      refine lv_icmp_ne (tgt := 34) C.1 C.2.1 (dd_at td_narrow 17 rfl) (by decide) (fun c3 => ?_) (fun c3 => ?_)
      · replace hf := fc_of_f hf c3
        refine lv_iload_n C.1 C.2.1 (dd_at td_narrow 22 rfl) rfl (lv_at hl 1 rfl) ?_
        refine lv_iconst (v := (4 : Int32)) C.1 C.2.1 (dd_at td_narrow 23 rfl) (by decide) ?_
        refine lv_icmp_ne (tgt := 53) C.1 C.2.1 (dd_at td_narrow 24 rfl) (by decide) (fun c4 => ?_) (fun c4 => ?_)
        · replace hf := fc_of_f hf c4
          refine lv_lload_n C.1 C.2.1 (dd_at td_narrow 33 rfl) rfl (lv_at hl 2 rfl) ?_
          exact mm_rl C hM (dd_at td_narrow 34 rfl) hf
        · replace hf := fc_of_t hf c4
          refine lv_lload_n C.1 C.2.1 (dd_at td_narrow 25 rfl) rfl (lv_at hl 2 rfl) ?_
          refine lv_lconst (v := (0 : Int64)) C.1 C.2.1 (dd_at td_narrow 26 rfl) (by decide) ?_
          refine W.lcmp C.1 C.2.1 (dd_at td_narrow 27 rfl) ?_
          refine lv_if_eq (tgt := 49) C.1 C.2.1 (dd_at td_narrow 28 rfl) (by decide) (fun c5 => ?_) (fun c5 => ?_)
          · replace hf := fc_of_t hf c5
            refine lv_lconst (v := (0 : Int64)) C.1 C.2.1 (dd_at td_narrow 31 rfl) (by decide) ?_
            refine lv_goto (tgt := 54) C.1 C.2.1 (dd_at td_narrow 32 rfl) (by decide) ?_
            exact mm_rl C hM (dd_at td_narrow 34 rfl) hf
          · replace hf := fc_of_f hf c5
            refine lv_lconst (v := (1 : Int64)) C.1 C.2.1 (dd_at td_narrow 29 rfl) (by decide) ?_
            refine lv_goto (tgt := 54) C.1 C.2.1 (dd_at td_narrow 30 rfl) (by decide) ?_
            exact mm_rl C hM (dd_at td_narrow 34 rfl) hf
      · replace hf := fc_of_t hf c3
        refine lv_lload_n C.1 C.2.1 (dd_at td_narrow 18 rfl) rfl (lv_at hl 2 rfl) ?_
        refine lv_l2i C.1 C.2.1 (dd_at td_narrow 19 rfl) rfl ?_
        refine lv_i2l C.1 C.2.1 (dd_at td_narrow 20 rfl) rfl ?_
        refine lv_goto (tgt := 54) C.1 C.2.1 (dd_at td_narrow 21 rfl) (by decide) ?_
        exact mm_rl C hM (dd_at td_narrow 34 rfl) hf
    · replace hf := fc_of_t hf c2
      refine lv_lload_n C.1 C.2.1 (dd_at td_narrow 10 rfl) rfl (lv_at hl 2 rfl) ?_
      refine lv_l2i C.1 C.2.1 (dd_at td_narrow 11 rfl) rfl ?_
      refine lv_i2s C.1 C.2.1 (dd_at td_narrow 12 rfl) rfl ?_
      refine lv_i2l C.1 C.2.1 (dd_at td_narrow 13 rfl) rfl ?_
      refine lv_goto (tgt := 54) C.1 C.2.1 (dd_at td_narrow 14 rfl) (by decide) ?_
      exact mm_rl C hM (dd_at td_narrow 34 rfl) hf
  · replace hf := fc_of_t hf c1
    refine lv_lload_n C.1 C.2.1 (dd_at td_narrow 2 rfl) rfl (lv_at hl 2 rfl) ?_
    refine lv_l2i C.1 C.2.1 (dd_at td_narrow 3 rfl) rfl ?_
    refine lv_i2b C.1 C.2.1 (dd_at td_narrow 4 rfl) rfl ?_
    refine lv_i2l C.1 C.2.1 (dd_at td_narrow 5 rfl) rfl ?_
    refine lv_goto (tgt := 54) C.1 C.2.1 (dd_at td_narrow 6 rfl) (by decide) ?_
    exact mm_rl C hM (dd_at td_narrow 34 rfl) hf
theorem c_narrow (l : Launch) (D : va_G) (o : Nat) (ad : Nat → Nat) (cs : ClassId × ClassId × ClassId) (fu : Nat) (x1 : Int32) (x2 : Int64) (st : mm_S) : mm_Ml l D o ad cs yX12_narrow cX12_narrow 4 (some .long) 0 0 [.int x1, .long x2] st (M_narrow fu x1 x2 st) := by
  intro r st' hf
  refine mm_enter (cc := cX12_narrow) (nL := 4) (ret := some .long) (by decide) rfl (Nat.le_of_ble_eq_true rfl) ?_
  intro p e s m args below meth c ls C hl hM
  exact w_narrow C fu x1 x2 st hf hl hM

/-! item -/
def tb_item : List (Nat × Instr × Nat) := [(0, .aload_n 0, 1), (1, .iload_n 1, 1), (2, .invokevirtual 343, 3), (5, .ifCond .ne 5, 3), (8, .iconst (-1), 1), (9, .ireturn, 1), (10, .aload_n 0, 1), (11, .getfield 191, 3), (14, .iload_n 1, 1), (15, .iaload, 1), (16, .ifCond .ge 6, 3), (19, .bipush (-11), 2), (21, .ireturn, 1), (22, .aload_n 0, 1), (23, .iload_n 2, 1), (24, .iconst 0, 1), (25, .aload_n 0, 1), (26, .getfield 194, 3), (29, .iload_n 1, 1), (30, .iaload, 1), (31, .iconst 1, 1), (32, .isub, 1), (33, .invokevirtual 207, 3), (36, .ifCond .ne 6, 3), (39, .bipush (-13), 2), (41, .ireturn, 1), (42, .aload_n 0, 1), (43, .getfield 197, 3), (46, .bipush 60, 2), (48, .iload_n 1, 1), (49, .imul, 1), (50, .iload_n 2, 1), (51, .iadd, 1), (52, .aload_n 0, 1), (53, .aload_n 0, 1), (54, .getfield 191, 3), (57, .iload_n 1, 1), (58, .iaload, 1), (59, .lload_n 3, 1), (60, .invokevirtual 371, 3), (63, .lastore, 1), (64, .iconst 1, 1), (65, .ireturn, 1)]
theorem td_item : tb_item.all (fun q => decide (decode cX12_item q.1 = .ok (q.2.1, q.2.2))) = true := by decide +kernel
theorem w_item {p : Program} {l : Launch} {e : Env} {s : State} {m : MethodId} {args : Array Value} {below : List Frame} {meth : Method} {c : Code} {D : va_G} {o : Nat} {ad : Nat → Nat} {cs : ClassId × ClassId × ClassId} {r : Int32} {st' : mm_S} (C : mm_C p s m args meth c cX12_item 5 (some .int) D cs) (fu : Nat) (x1 : Int32) (x2 : Int32) (x3 : Int64) (st : mm_S) (hf : M_item fu x1 x2 x3 st = some (r, st')) {H : Heap} {locs : List Loc} {ls : Array Slot} (hl : lv_has ls 5 [(0, .ref o), (1, .int x1), (2, .int x2), (3, .long x3)]) (hM : mm_H D o ad cs s.heap st H locs) : W p l e (mm_R 2 44) s m args below meth c H locs 0 0 (MQ below (mm_Qi D o ad cs r st') args s 0 0 (mm_A o ad)) (F0 m 0 ls []) := by
  unfold M_item at hf
  refine lv_aload_n C.1 C.2.1 (dd_at td_item 0 rfl) rfl (lv_at hl 0 rfl) ?_
  refine lv_iload_n C.1 C.2.1 (dd_at td_item 1 rfl) rfl (lv_at hl 1 rfl) ?_
  obtain ⟨r3, st1, hx2, hf⟩ := fc_of_bn hf
  refine mm_ci (As := [.int x1]) (rest := []) (n := 1) C hM (c_isTape l D o ad cs fu x1 st) (List.mem_of_getElem? (i := 24) rfl) (dd_at td_item 2 rfl) hx2 hl.1 hd_isTape ⟨Nat.le_of_ble_eq_true rfl, Nat.le_of_ble_eq_true rfl⟩ rfl rfl (Nat.le_of_ble_eq_true rfl) ⟨Nat.le_refl 0, Nat.le_refl 0⟩ (fun H locs hM => ?_)
  refine lv_if_ne (tgt := 10) C.1 C.2.1 (dd_at td_item 3 rfl) (by decide) (fun c4 => ?_) (fun c4 => ?_)
  · replace hf := fc_of_f hf c4
    refine lv_aload_n C.1 C.2.1 (dd_at td_item 6 rfl) rfl (lv_at hl 0 rfl) ?_
    refine mm_gA C hM 59 (dd_at td_item 7 rfl) (by decide) (by decide) (by decide) ?_
    refine lv_iload_n C.1 C.2.1 (dd_at td_item 8 rfl) rfl (lv_at hl 1 rfl) ?_
    obtain ⟨g5, hf⟩ := fc_of_gd hf
    refine mm_iald C hM 59 (dd_at td_item 9 rfl) (by decide) (by decide) (fc_of_ix g5) ?_
    refine lv_if_ge (tgt := 22) C.1 C.2.1 (dd_at td_item 10 rfl) (by decide) (fun c6 => ?_) (fun c6 => ?_)
    · replace hf := fc_of_t hf c6
      refine lv_aload_n C.1 C.2.1 (dd_at td_item 13 rfl) rfl (lv_at hl 0 rfl) ?_
      refine lv_iload_n C.1 C.2.1 (dd_at td_item 14 rfl) rfl (lv_at hl 2 rfl) ?_
      refine lv_iconst (v := (0 : Int32)) C.1 C.2.1 (dd_at td_item 15 rfl) (by decide) ?_
      refine lv_aload_n C.1 C.2.1 (dd_at td_item 16 rfl) rfl (lv_at hl 0 rfl) ?_
      refine mm_gA C hM 60 (dd_at td_item 17 rfl) (by decide) (by decide) (by decide) ?_
      refine lv_iload_n C.1 C.2.1 (dd_at td_item 18 rfl) rfl (lv_at hl 1 rfl) ?_
      obtain ⟨g7, hf⟩ := fc_of_gd hf
      refine mm_iald C hM 60 (dd_at td_item 19 rfl) (by decide) (by decide) (fc_of_ix g7) ?_
      refine lv_iconst (v := (1 : Int32)) C.1 C.2.1 (dd_at td_item 20 rfl) (by decide) ?_
      refine lv_isub C.1 C.2.1 (dd_at td_item 21 rfl) ?_
      obtain ⟨r10, st8, hx9, hf⟩ := fc_of_bn hf
      refine mm_ci (As := [.int x2, .int (0 : Int32), .int ((mm_G st1 60 x1.toNatClampNeg) - (1 : Int32))]) (rest := []) (n := 3) C hM (c_in l D o ad cs fu x2 (0 : Int32) ((mm_G st1 60 x1.toNatClampNeg) - (1 : Int32)) st1) (List.mem_of_getElem? (i := 18) rfl) (dd_at td_item 22 rfl) hx9 hl.1 hd_in ⟨Nat.le_of_ble_eq_true rfl, Nat.le_of_ble_eq_true rfl⟩ rfl rfl (Nat.le_of_ble_eq_true rfl) ⟨Nat.le_refl 0, Nat.le_refl 0⟩ (fun H locs hM => ?_)
      refine lv_if_ne (tgt := 42) C.1 C.2.1 (dd_at td_item 23 rfl) (by decide) (fun c11 => ?_) (fun c11 => ?_)
      · replace hf := fc_of_f hf c11
        refine lv_aload_n C.1 C.2.1 (dd_at td_item 26 rfl) rfl (lv_at hl 0 rfl) ?_
        refine mm_gA C hM 61 (dd_at td_item 27 rfl) (by decide) (by decide) (by decide) ?_
        refine lv_bipush (v := (60 : Int32)) C.1 C.2.1 (dd_at td_item 28 rfl) (by decide) ?_
        refine lv_iload_n C.1 C.2.1 (dd_at td_item 29 rfl) rfl (lv_at hl 1 rfl) ?_
        refine lv_imul C.1 C.2.1 (dd_at td_item 30 rfl) ?_
        refine lv_iload_n C.1 C.2.1 (dd_at td_item 31 rfl) rfl (lv_at hl 2 rfl) ?_
        refine lv_iadd C.1 C.2.1 (dd_at td_item 32 rfl) ?_
        refine lv_aload_n C.1 C.2.1 (dd_at td_item 33 rfl) rfl (lv_at hl 0 rfl) ?_
        refine lv_aload_n C.1 C.2.1 (dd_at td_item 34 rfl) rfl (lv_at hl 0 rfl) ?_
        refine mm_gA C hM 59 (dd_at td_item 35 rfl) (by decide) (by decide) (by decide) ?_
        refine lv_iload_n C.1 C.2.1 (dd_at td_item 36 rfl) rfl (lv_at hl 1 rfl) ?_
        obtain ⟨g12, hf⟩ := fc_of_gd hf
        refine mm_iald C hM 59 (dd_at td_item 37 rfl) (by decide) (by decide) (fc_of_ix g12) ?_
        refine lv_lload_n C.1 C.2.1 (dd_at td_item 38 rfl) rfl (lv_at hl 3 rfl) ?_
        obtain ⟨r15, st13, hx14, hf⟩ := fc_of_bn hf
        refine mm_cl (As := [.int (mm_G st8 59 x1.toNatClampNeg), .long x3]) (rest := [.int (((60 : Int32) * x1) + x2), .ref (ad 61)]) (n := 2) C hM (c_narrow l D o ad cs fu (mm_G st8 59 x1.toNatClampNeg) x3 st8) (List.mem_of_getElem? (i := 29) rfl) (dd_at td_item 39 rfl) hx14 hl.1 hd_narrow ⟨Nat.le_of_ble_eq_true rfl, Nat.le_of_ble_eq_true rfl⟩ rfl rfl (Nat.le_of_ble_eq_true rfl) ⟨Nat.le_refl 0, Nat.le_refl 0⟩ (fun H locs hM => ?_)
        obtain ⟨g16, hf⟩ := fc_of_gd hf
        refine mm_last C hM 61 (dd_at td_item 40 rfl) (by decide) (by decide) (fc_of_ix g16) (fun st17 H locs est17 hM => ?_)
        replace hf := fc_of_nm hf st17 est17
        refine lv_iconst (v := (1 : Int32)) C.1 C.2.1 (dd_at td_item 41 rfl) (by decide) ?_
        exact mm_ri C hM (dd_at td_item 42 rfl) hf
      · replace hf := fc_of_t hf c11
        refine lv_bipush (v := (-13 : Int32)) C.1 C.2.1 (dd_at td_item 24 rfl) (by decide) ?_
        exact mm_ri C hM (dd_at td_item 25 rfl) hf
    · replace hf := fc_of_f hf c6
      refine lv_bipush (v := (-11 : Int32)) C.1 C.2.1 (dd_at td_item 11 rfl) (by decide) ?_
      exact mm_ri C hM (dd_at td_item 12 rfl) hf
  · replace hf := fc_of_t hf c4
    refine lv_iconst (v := (-1 : Int32)) C.1 C.2.1 (dd_at td_item 4 rfl) (by decide) ?_
    exact mm_ri C hM (dd_at td_item 5 rfl) hf
theorem c_item (l : Launch) (D : va_G) (o : Nat) (ad : Nat → Nat) (cs : ClassId × ClassId × ClassId) (fu : Nat) (x1 : Int32) (x2 : Int32) (x3 : Int64) (st : mm_S) : mm_Mi l D o ad cs yX12_item cX12_item 5 (some .int) 2 44 [.int x1, .int x2, .long x3] st (M_item fu x1 x2 x3 st) := by
  intro r st' hf
  refine mm_enter (cc := cX12_item) (nL := 5) (ret := some .int) (by decide) rfl (Nat.le_of_ble_eq_true rfl) ?_
  intro p e s m args below meth c ls C hl hM
  exact w_item C fu x1 x2 x3 st hf hl hM

/-! read -/
def tb_read : List (Nat × Instr × Nat) := [(0, .aload_n 0, 1), (1, .iload_n 1, 1), (2, .invokevirtual 343, 3), (5, .ifCond .eq 29, 3), (8, .aload_n 0, 1), (9, .getfield 191, 3), (12, .iload_n 1, 1), (13, .iaload, 1), (14, .ifCond .lt 20, 3), (17, .aload_n 0, 1), (18, .iload_n 2, 1), (19, .iconst 0, 1), (20, .aload_n 0, 1), (21, .getfield 194, 3), (24, .iload_n 1, 1), (25, .iaload, 1), (26, .iconst 1, 1), (27, .isub, 1), (28, .invokevirtual 207, 3), (31, .ifCond .ne 9, 3), (34, .ldc2_w 321, 3), (37, .goto 14, 3), (40, .aload_n 0, 1), (41, .getfield 197, 3), (44, .bipush 60, 2), (46, .iload_n 1, 1), (47, .imul, 1), (48, .iload_n 2, 1), (49, .iadd, 1), (50, .laload, 1), (51, .lreturn, 1)]
theorem td_read : tb_read.all (fun q => decide (decode cX12_read q.1 = .ok (q.2.1, q.2.2))) = true := by decide +kernel
theorem w_read {p : Program} {l : Launch} {e : Env} {s : State} {m : MethodId} {args : Array Value} {below : List Frame} {meth : Method} {c : Code} {D : va_G} {o : Nat} {ad : Nat → Nat} {cs : ClassId × ClassId × ClassId} {r : Int64} {st' : mm_S} (C : mm_C p s m args meth c cX12_read 3 (some .long) D cs) (fu : Nat) (x1 : Int32) (x2 : Int32) (st : mm_S) (hf : M_read fu x1 x2 st = some (r, st')) {H : Heap} {locs : List Loc} {ls : Array Slot} (hl : lv_has ls 3 [(0, .ref o), (1, .int x1), (2, .int x2)]) (hM : mm_H D o ad cs s.heap st H locs) : W p l e (mm_R 2 44) s m args below meth c H locs 0 0 (MQ below (mm_Ql D o ad cs r st') args s 0 0 (mm_A o ad)) (F0 m 0 ls []) := by
  unfold M_read at hf
  refine lv_aload_n C.1 C.2.1 (dd_at td_read 0 rfl) rfl (lv_at hl 0 rfl) ?_
  refine lv_iload_n C.1 C.2.1 (dd_at td_read 1 rfl) rfl (lv_at hl 1 rfl) ?_
  obtain ⟨r3, st1, hx2, hf⟩ := fc_of_bn hf
  refine mm_ci (As := [.int x1]) (rest := []) (n := 1) C hM (c_isTape l D o ad cs fu x1 st) (List.mem_of_getElem? (i := 24) rfl) (dd_at td_read 2 rfl) hx2 hl.1 hd_isTape ⟨Nat.le_of_ble_eq_true rfl, Nat.le_of_ble_eq_true rfl⟩ rfl rfl (Nat.le_of_ble_eq_true rfl) ⟨Nat.le_refl 0, Nat.le_refl 0⟩ (fun H locs hM => ?_)
  refine lv_if_eq (tgt := 34) C.1 C.2.1 (dd_at td_read 3 rfl) (by decide) (fun c4 => ?_) (fun c4 => ?_)
  · replace hf := fc_of_t hf c4
    refine lv_ldc2 (v := (-9223372036854775808 : Int64)) C.1 C.2.1 C.2.2.2.2.1 (C.2.2.2.2.2.1 (.constantLong RX12 321 (-9223372036854775808 : Int64)) (mm_Wk (by decide +kernel))) (dd_at td_read 20 rfl) ?_
    refine lv_goto (tgt := 51) C.1 C.2.1 (dd_at td_read 21 rfl) (by decide) ?_
    exact mm_rl C hM (dd_at td_read 30 rfl) hf
  · replace hf := fc_of_f hf c4
    refine lv_aload_n C.1 C.2.1 (dd_at td_read 4 rfl) rfl (lv_at hl 0 rfl) ?_
    refine mm_gA C hM 59 (dd_at td_read 5 rfl) (by decide) (by decide) (by decide) ?_
    refine lv_iload_n C.1 C.2.1 (dd_at td_read 6 rfl) rfl (lv_at hl 1 rfl) ?_
    obtain ⟨g5, hf⟩ := fc_of_gd hf
    refine mm_iald C hM 59 (dd_at td_read 7 rfl) (by decide) (by decide) (fc_of_ix g5) ?_
    refine lv_if_lt (tgt := 34) C.1 C.2.1 (dd_at td_read 8 rfl) (by decide) (fun c6 => ?_) (fun c6 => ?_)
    · replace hf := fc_of_t hf c6
      refine lv_ldc2 (v := (-9223372036854775808 : Int64)) C.1 C.2.1 C.2.2.2.2.1 (C.2.2.2.2.2.1 (.constantLong RX12 321 (-9223372036854775808 : Int64)) (mm_Wk (by decide +kernel))) (dd_at td_read 20 rfl) ?_
      refine lv_goto (tgt := 51) C.1 C.2.1 (dd_at td_read 21 rfl) (by decide) ?_
      exact mm_rl C hM (dd_at td_read 30 rfl) hf
    · replace hf := fc_of_f hf c6
      refine lv_aload_n C.1 C.2.1 (dd_at td_read 9 rfl) rfl (lv_at hl 0 rfl) ?_
      refine lv_iload_n C.1 C.2.1 (dd_at td_read 10 rfl) rfl (lv_at hl 2 rfl) ?_
      refine lv_iconst (v := (0 : Int32)) C.1 C.2.1 (dd_at td_read 11 rfl) (by decide) ?_
      refine lv_aload_n C.1 C.2.1 (dd_at td_read 12 rfl) rfl (lv_at hl 0 rfl) ?_
      refine mm_gA C hM 60 (dd_at td_read 13 rfl) (by decide) (by decide) (by decide) ?_
      refine lv_iload_n C.1 C.2.1 (dd_at td_read 14 rfl) rfl (lv_at hl 1 rfl) ?_
      obtain ⟨g7, hf⟩ := fc_of_gd hf
      refine mm_iald C hM 60 (dd_at td_read 15 rfl) (by decide) (by decide) (fc_of_ix g7) ?_
      refine lv_iconst (v := (1 : Int32)) C.1 C.2.1 (dd_at td_read 16 rfl) (by decide) ?_
      refine lv_isub C.1 C.2.1 (dd_at td_read 17 rfl) ?_
      obtain ⟨r10, st8, hx9, hf⟩ := fc_of_bn hf
      refine mm_ci (As := [.int x2, .int (0 : Int32), .int ((mm_G st1 60 x1.toNatClampNeg) - (1 : Int32))]) (rest := []) (n := 3) C hM (c_in l D o ad cs fu x2 (0 : Int32) ((mm_G st1 60 x1.toNatClampNeg) - (1 : Int32)) st1) (List.mem_of_getElem? (i := 18) rfl) (dd_at td_read 18 rfl) hx9 hl.1 hd_in ⟨Nat.le_of_ble_eq_true rfl, Nat.le_of_ble_eq_true rfl⟩ rfl rfl (Nat.le_of_ble_eq_true rfl) ⟨Nat.le_refl 0, Nat.le_refl 0⟩ (fun H locs hM => ?_)
      refine lv_if_ne (tgt := 40) C.1 C.2.1 (dd_at td_read 19 rfl) (by decide) (fun c11 => ?_) (fun c11 => ?_)
      · replace hf := fc_of_f hf c11
        refine lv_aload_n C.1 C.2.1 (dd_at td_read 22 rfl) rfl (lv_at hl 0 rfl) ?_
        refine mm_gA C hM 61 (dd_at td_read 23 rfl) (by decide) (by decide) (by decide) ?_
        refine lv_bipush (v := (60 : Int32)) C.1 C.2.1 (dd_at td_read 24 rfl) (by decide) ?_
        refine lv_iload_n C.1 C.2.1 (dd_at td_read 25 rfl) rfl (lv_at hl 1 rfl) ?_
        refine lv_imul C.1 C.2.1 (dd_at td_read 26 rfl) ?_
        refine lv_iload_n C.1 C.2.1 (dd_at td_read 27 rfl) rfl (lv_at hl 2 rfl) ?_
        refine lv_iadd C.1 C.2.1 (dd_at td_read 28 rfl) ?_
        obtain ⟨g12, hf⟩ := fc_of_gd hf
        refine mm_lald C hM 61 (dd_at td_read 29 rfl) (by decide) (by decide) (fc_of_ix g12) ?_
        exact mm_rl C hM (dd_at td_read 30 rfl) hf
      · replace hf := fc_of_t hf c11
        refine lv_ldc2 (v := (-9223372036854775808 : Int64)) C.1 C.2.1 C.2.2.2.2.1 (C.2.2.2.2.2.1 (.constantLong RX12 321 (-9223372036854775808 : Int64)) (mm_Wk (by decide +kernel))) (dd_at td_read 20 rfl) ?_
        refine lv_goto (tgt := 51) C.1 C.2.1 (dd_at td_read 21 rfl) (by decide) ?_
        exact mm_rl C hM (dd_at td_read 30 rfl) hf
theorem c_read (l : Launch) (D : va_G) (o : Nat) (ad : Nat → Nat) (cs : ClassId × ClassId × ClassId) (fu : Nat) (x1 : Int32) (x2 : Int32) (st : mm_S) : mm_Ml l D o ad cs yX12_read cX12_read 3 (some .long) 2 44 [.int x1, .int x2] st (M_read fu x1 x2 st) := by
  intro r st' hf
  refine mm_enter (cc := cX12_read) (nL := 3) (ret := some .long) (by decide) rfl (Nat.le_of_ble_eq_true rfl) ?_
  intro p e s m args below meth c ls C hl hM
  exact w_read C fu x1 x2 st hf hl hM

/-! shift -/
def tb_shift : List (Nat × Instr × Nat) := [(0, .aload_n 0, 1), (1, .iload_n 1, 1), (2, .invokevirtual 343, 3), (5, .ifCond .eq 11, 3), (8, .aload_n 0, 1), (9, .iload_n 3, 1), (10, .invokevirtual 343, 3), (13, .ifCond .ne 5, 3), (16, .iconst (-1), 1), (17, .ireturn, 1), (18, .aload_n 0, 1), (19, .getfield 191, 3), (22, .iload_n 1, 1), (23, .iaload, 1), (24, .ifCond .lt 12, 3), (27, .aload_n 0, 1), (28, .getfield 191, 3), (31, .iload_n 3, 1), (32, .iaload, 1), (33, .ifCond .ge 6, 3), (36, .bipush (-11), 2), (38, .ireturn, 1), (39, .aload_n 0, 1), (40, .getfield 191, 3), (43, .iload_n 1, 1), (44, .iaload, 1), (45, .aload_n 0, 1), (46, .getfield 191, 3), (49, .iload_n 3, 1), (50, .iaload, 1), (51, .if_icmp .eq 6, 3), (54, .bipush (-12), 2), (56, .ireturn, 1), (57, .iload 5, 2), (59, .ifCond .lt 39, 3), (62, .iload_n 2, 1), (63, .ifCond .lt 35, 3), (66, .iload 4, 2), (68, .ifCond .lt 30, 3), (71, .iload_n 2, 1), (72, .aload_n 0, 1), (73, .getfield 194, 3), (76, .iload_n 1, 1), (77, .iaload, 1), (78, .iload 5, 2), (80, .isub, 1), (81, .if_icmp .gt 17, 3), (84, .iload 4, 2), (86, .aload_n 0, 1), (87, .getfield 194, 3), (90, .iload_n 3, 1), (91, .iaload, 1), (92, .iload 5, 2), (94, .isub, 1), (95, .if_icmp .le 6, 3), (98, .bipush (-13), 2), (100, .ireturn, 1), (101, .iconst 0, 1), (102, .istore 6, 2), (104, .iload 6, 2), (106, .iload 5, 2), (108, .if_icmp .ge 30, 3), (111, .aload_n 0, 1), (112, .getfield 200, 3), (115, .iload 6, 2), (117, .aload_n 0, 1), (118, .getfield 197, 3), (121, .bipush 60, 2), (123, .iload_n 1, 1), (124, .imul, 1), (125, .iload_n 2, 1), (126, .iadd, 1), (127, .iload 6, 2), (129, .iadd, 1), (130, .laload, 1), (131, .lastore, 1), (132, .iinc 6 1, 3), (135, .goto (-31), 3), (138, .iconst 0, 1), (139, .istore 6, 2), (141, .iload 6, 2), (143, .iload 5, 2), (145, .if_icmp .ge 31, 3), (148, .aload_n 0, 1), (149, .getfield 197, 3), (152, .bipush 60, 2), (154, .iload_n 3, 1), (155, .imul, 1), (156, .iload 4, 2), (158, .iadd, 1), (159, .iload 6, 2), (161, .iadd, 1), (162, .aload_n 0, 1), (163, .getfield 200, 3), (166, .iload 6, 2), (168, .laload, 1), (169, .lastore, 1), (170, .iinc 6 1, 3), (173, .goto (-32), 3), (176, .iload 5, 2), (178, .ireturn, 1)]
theorem td_shift : tb_shift.all (fun q => decide (decode cX12_shift q.1 = .ok (q.2.1, q.2.2))) = true := by decide +kernel
theorem w_shift_b141F {p : Program} {l : Launch} {e : Env} {s : State} {m : MethodId} {args : Array Value} {below : List Frame} {meth : Method} {c : Code} {D : va_G} {o : Nat} {ad : Nat → Nat} {cs : ClassId × ClassId × ClassId} {r : Int32} {st' : mm_S} (C : mm_C p s m args meth c cX12_shift 7 (some .int) D cs) (fu : Nat) (K141 : Int32 → Int32 → Int32 → Int32 → mm_S → Option (Int32 × mm_S)) (hK141 : ∀ (x3 : Int32) (x4 : Int32) (x5 : Int32) (x6 : Int32) (st : mm_S) (H : Heap) (locs : List Loc) (ls : Array Slot), K141 x3 x4 x5 x6 st = some (r, st') → lv_has ls 7 [(0, .ref o), (3, .int x3), (4, .int x4), (5, .int x5), (6, .int x6)] → mm_H D o ad cs s.heap st H locs → W p l e (mm_R 2 44) s m args below meth c H locs 0 0 (MQ below (mm_Qi D o ad cs r st') args s 0 0 (mm_A o ad)) (F0 m 141 ls [])) (x3 : Int32) (x4 : Int32) (x5 : Int32) (x6 : Int32) (st : mm_S) (hf : M_shift_b141F fu K141 x3 x4 x5 x6 st = some (r, st')) {H : Heap} {locs : List Loc} {ls : Array Slot} (hl : lv_has ls 7 [(0, .ref o), (3, .int x3), (4, .int x4), (5, .int x5), (6, .int x6)]) (hM : mm_H D o ad cs s.heap st H locs) : W p l e (mm_R 2 44) s m args below meth c H locs 0 0 (MQ below (mm_Qi D o ad cs r st') args s 0 0 (mm_A o ad)) (F0 m 141 ls []) := by
  unfold M_shift_b141F at hf
  refine lv_iload C.1 C.2.1 (dd_at td_shift 80 rfl) (lv_at hl 4 rfl) ?_
  refine lv_iload C.1 C.2.1 (dd_at td_shift 81 rfl) (lv_at hl 3 rfl) ?_
  refine lv_icmp_ge (tgt := 176) C.1 C.2.1 (dd_at td_shift 82 rfl) (by decide) (fun c28 => ?_) (fun c28 => ?_)
  · replace hf := fc_of_t hf c28
    refine lv_iload C.1 C.2.1 (dd_at td_shift 99 rfl) (lv_at hl 3 rfl) ?_
    exact mm_ri C hM (dd_at td_shift 100 rfl) hf
  · replace hf := fc_of_f hf c28
    refine lv_aload_n C.1 C.2.1 (dd_at td_shift 83 rfl) rfl (lv_at hl 0 rfl) ?_
    refine mm_gA C hM 61 (dd_at td_shift 84 rfl) (by decide) (by decide) (by decide) ?_
    refine lv_bipush (v := (60 : Int32)) C.1 C.2.1 (dd_at td_shift 85 rfl) (by decide) ?_
    refine lv_iload_n C.1 C.2.1 (dd_at td_shift 86 rfl) rfl (lv_at hl 1 rfl) ?_
    refine lv_imul C.1 C.2.1 (dd_at td_shift 87 rfl) ?_
    refine lv_iload C.1 C.2.1 (dd_at td_shift 88 rfl) (lv_at hl 2 rfl) ?_
    refine lv_iadd C.1 C.2.1 (dd_at td_shift 89 rfl) ?_
    refine lv_iload C.1 C.2.1 (dd_at td_shift 90 rfl) (lv_at hl 4 rfl) ?_
    refine lv_iadd C.1 C.2.1 (dd_at td_shift 91 rfl) ?_
    refine lv_aload_n C.1 C.2.1 (dd_at td_shift 92 rfl) rfl (lv_at hl 0 rfl) ?_
    refine mm_gA C hM 62 (dd_at td_shift 93 rfl) (by decide) (by decide) (by decide) ?_
    refine lv_iload C.1 C.2.1 (dd_at td_shift 94 rfl) (lv_at hl 4 rfl) ?_
    obtain ⟨g29, hf⟩ := fc_of_gd hf
    refine mm_lald C hM 62 (dd_at td_shift 95 rfl) (by decide) (by decide) (fc_of_ix g29) ?_
    obtain ⟨g30, hf⟩ := fc_of_gd hf
    refine mm_last C hM 61 (dd_at td_shift 96 rfl) (by decide) (by decide) (fc_of_ix g30) (fun st31 H locs est31 hM => ?_)
    replace hf := fc_of_nm hf st31 est31
    obtain ⟨v32, ev32⟩ : ∃ y : Int32, y = x6 + (1 : Int32) := ⟨_, rfl⟩
    replace hf := fc_of_nm hf v32 ev32
    refine lv_iinc (v := v32) (lv' := [(6, .int v32), (0, .ref o), (3, .int x3), (4, .int x4), (5, .int x5)]) C.1 C.2.1 (dd_at td_shift 97 rfl) hl (k := 4) rfl (by rw [ev32]; rfl) (by decide) rfl (fun ls hl => ?_)
    refine lv_goto (tgt := 141) C.1 C.2.1 (dd_at td_shift 98 rfl) (by decide) ?_
    exact hK141 x3 x4 x5 v32 st31 _ _ _ hf (lv_sub hl [1, 2, 3, 4, 0] rfl) hM
theorem w_shift_b141 {p : Program} {l : Launch} {e : Env} {s : State} {m : MethodId} {args : Array Value} {below : List Frame} {meth : Method} {c : Code} {D : va_G} {o : Nat} {ad : Nat → Nat} {cs : ClassId × ClassId × ClassId} {r : Int32} {st' : mm_S} (C : mm_C p s m args meth c cX12_shift 7 (some .int) D cs) (fu : Nat) (n : Nat) : ∀ (x3 : Int32) (x4 : Int32) (x5 : Int32) (x6 : Int32) (st : mm_S), M_shift_b141 fu n x3 x4 x5 x6 st = some (r, st') → ∀ (H : Heap) (locs : List Loc) (ls : Array Slot), lv_has ls 7 [(0, .ref o), (3, .int x3), (4, .int x4), (5, .int x5), (6, .int x6)] → mm_H D o ad cs s.heap st H locs → W p l e (mm_R 2 44) s m args below meth c H locs 0 0 (MQ below (mm_Qi D o ad cs r st') args s 0 0 (mm_A o ad)) (F0 m 141 ls []) := by
  induction n with
  | zero => exact fun _ _ _ _ _ hf => fc_no hf
  | succ n ih =>
    intro x3 x4 x5 x6 st hf H locs ls hl hM
    exact w_shift_b141F C fu (fun x3 x4 x5 x6 st => M_shift_b141 fu n x3 x4 x5 x6 st) (fun x3 x4 x5 x6 st H locs ls hf hl hM => ih x3 x4 x5 x6 st hf H locs ls hl hM) x3 x4 x5 x6 st hf hl hM
theorem w_shift_b104F {p : Program} {l : Launch} {e : Env} {s : State} {m : MethodId} {args : Array Value} {below : List Frame} {meth : Method} {c : Code} {D : va_G} {o : Nat} {ad : Nat → Nat} {cs : ClassId × ClassId × ClassId} {r : Int32} {st' : mm_S} (C : mm_C p s m args meth c cX12_shift 7 (some .int) D cs) (fu : Nat) (K104 : Int32 → Int32 → Int32 → Int32 → Int32 → Int32 → mm_S → Option (Int32 × mm_S)) (hK104 : ∀ (x1 : Int32) (x2 : Int32) (x3 : Int32) (x4 : Int32) (x5 : Int32) (x6 : Int32) (st : mm_S) (H : Heap) (locs : List Loc) (ls : Array Slot), K104 x1 x2 x3 x4 x5 x6 st = some (r, st') → lv_has ls 7 [(0, .ref o), (1, .int x1), (2, .int x2), (3, .int x3), (4, .int x4), (5, .int x5), (6, .int x6)] → mm_H D o ad cs s.heap st H locs → W p l e (mm_R 2 44) s m args below meth c H locs 0 0 (MQ below (mm_Qi D o ad cs r st') args s 0 0 (mm_A o ad)) (F0 m 104 ls [])) (x1 : Int32) (x2 : Int32) (x3 : Int32) (x4 : Int32) (x5 : Int32) (x6 : Int32) (st : mm_S) (hf : M_shift_b104F fu K104 x1 x2 x3 x4 x5 x6 st = some (r, st')) {H : Heap} {locs : List Loc} {ls : Array Slot} (hl : lv_has ls 7 [(0, .ref o), (1, .int x1), (2, .int x2), (3, .int x3), (4, .int x4), (5, .int x5), (6, .int x6)]) (hM : mm_H D o ad cs s.heap st H locs) : W p l e (mm_R 2 44) s m args below meth c H locs 0 0 (MQ below (mm_Qi D o ad cs r st') args s 0 0 (mm_A o ad)) (F0 m 104 ls []) := by
  unfold M_shift_b104F at hf
  refine lv_iload C.1 C.2.1 (dd_at td_shift 59 rfl) (lv_at hl 6 rfl) ?_
  refine lv_iload C.1 C.2.1 (dd_at td_shift 60 rfl) (lv_at hl 5 rfl) ?_
  refine lv_icmp_ge (tgt := 138) C.1 C.2.1 (dd_at td_shift 61 rfl) (by decide) (fun c23 => ?_) (fun c23 => ?_)
  · replace hf := fc_of_t hf c23
    refine lv_iconst (v := (0 : Int32)) C.1 C.2.1 (dd_at td_shift 78 rfl) (by decide) ?_
    refine lv_istore (lv' := [(6, .int (0 : Int32)), (0, .ref o), (1, .int x1), (2, .int x2), (3, .int x3), (4, .int x4), (5, .int x5)]) C.1 C.2.1 (dd_at td_shift 79 rfl) hl (by decide) rfl (fun ls hl => ?_)
    exact w_shift_b141 C fu fu x3 x4 x5 (0 : Int32) st hf _ _ _ (lv_sub hl [1, 4, 5, 6, 0] rfl) hM
  · replace hf := fc_of_f hf c23
    refine lv_aload_n C.1 C.2.1 (dd_at td_shift 62 rfl) rfl (lv_at hl 0 rfl) ?_
    refine mm_gA C hM 62 (dd_at td_shift 63 rfl) (by decide) (by decide) (by decide) ?_
    refine lv_iload C.1 C.2.1 (dd_at td_shift 64 rfl) (lv_at hl 6 rfl) ?_
    refine lv_aload_n C.1 C.2.1 (dd_at td_shift 65 rfl) rfl (lv_at hl 0 rfl) ?_
    refine mm_gA C hM 61 (dd_at td_shift 66 rfl) (by decide) (by decide) (by decide) ?_
    refine lv_bipush (v := (60 : Int32)) C.1 C.2.1 (dd_at td_shift 67 rfl) (by decide) ?_
    refine lv_iload_n C.1 C.2.1 (dd_at td_shift 68 rfl) rfl (lv_at hl 1 rfl) ?_
    refine lv_imul C.1 C.2.1 (dd_at td_shift 69 rfl) ?_
    refine lv_iload_n C.1 C.2.1 (dd_at td_shift 70 rfl) rfl (lv_at hl 2 rfl) ?_
    refine lv_iadd C.1 C.2.1 (dd_at td_shift 71 rfl) ?_
    refine lv_iload C.1 C.2.1 (dd_at td_shift 72 rfl) (lv_at hl 6 rfl) ?_
    refine lv_iadd C.1 C.2.1 (dd_at td_shift 73 rfl) ?_
    obtain ⟨g24, hf⟩ := fc_of_gd hf
    refine mm_lald C hM 61 (dd_at td_shift 74 rfl) (by decide) (by decide) (fc_of_ix g24) ?_
    obtain ⟨g25, hf⟩ := fc_of_gd hf
    refine mm_last C hM 62 (dd_at td_shift 75 rfl) (by decide) (by decide) (fc_of_ix g25) (fun st26 H locs est26 hM => ?_)
    replace hf := fc_of_nm hf st26 est26
    obtain ⟨v27, ev27⟩ : ∃ y : Int32, y = x6 + (1 : Int32) := ⟨_, rfl⟩
    replace hf := fc_of_nm hf v27 ev27
    refine lv_iinc (v := v27) (lv' := [(6, .int v27), (0, .ref o), (1, .int x1), (2, .int x2), (3, .int x3), (4, .int x4), (5, .int x5)]) C.1 C.2.1 (dd_at td_shift 76 rfl) hl (k := 6) rfl (by rw [ev27]; rfl) (by decide) rfl (fun ls hl => ?_)
    refine lv_goto (tgt := 104) C.1 C.2.1 (dd_at td_shift 77 rfl) (by decide) ?_
    exact hK104 x1 x2 x3 x4 x5 v27 st26 _ _ _ hf (lv_sub hl [1, 2, 3, 4, 5, 6, 0] rfl) hM
theorem w_shift_b104 {p : Program} {l : Launch} {e : Env} {s : State} {m : MethodId} {args : Array Value} {below : List Frame} {meth : Method} {c : Code} {D : va_G} {o : Nat} {ad : Nat → Nat} {cs : ClassId × ClassId × ClassId} {r : Int32} {st' : mm_S} (C : mm_C p s m args meth c cX12_shift 7 (some .int) D cs) (fu : Nat) (n : Nat) : ∀ (x1 : Int32) (x2 : Int32) (x3 : Int32) (x4 : Int32) (x5 : Int32) (x6 : Int32) (st : mm_S), M_shift_b104 fu n x1 x2 x3 x4 x5 x6 st = some (r, st') → ∀ (H : Heap) (locs : List Loc) (ls : Array Slot), lv_has ls 7 [(0, .ref o), (1, .int x1), (2, .int x2), (3, .int x3), (4, .int x4), (5, .int x5), (6, .int x6)] → mm_H D o ad cs s.heap st H locs → W p l e (mm_R 2 44) s m args below meth c H locs 0 0 (MQ below (mm_Qi D o ad cs r st') args s 0 0 (mm_A o ad)) (F0 m 104 ls []) := by
  induction n with
  | zero => exact fun _ _ _ _ _ _ _ hf => fc_no hf
  | succ n ih =>
    intro x1 x2 x3 x4 x5 x6 st hf H locs ls hl hM
    exact w_shift_b104F C fu (fun x1 x2 x3 x4 x5 x6 st => M_shift_b104 fu n x1 x2 x3 x4 x5 x6 st) (fun x1 x2 x3 x4 x5 x6 st H locs ls hf hl hM => ih x1 x2 x3 x4 x5 x6 st hf H locs ls hl hM) x1 x2 x3 x4 x5 x6 st hf hl hM
theorem w_shift {p : Program} {l : Launch} {e : Env} {s : State} {m : MethodId} {args : Array Value} {below : List Frame} {meth : Method} {c : Code} {D : va_G} {o : Nat} {ad : Nat → Nat} {cs : ClassId × ClassId × ClassId} {r : Int32} {st' : mm_S} (C : mm_C p s m args meth c cX12_shift 7 (some .int) D cs) (fu : Nat) (x1 : Int32) (x2 : Int32) (x3 : Int32) (x4 : Int32) (x5 : Int32) (st : mm_S) (hf : M_shift fu x1 x2 x3 x4 x5 st = some (r, st')) {H : Heap} {locs : List Loc} {ls : Array Slot} (hl : lv_has ls 7 [(0, .ref o), (1, .int x1), (2, .int x2), (3, .int x3), (4, .int x4), (5, .int x5)]) (hM : mm_H D o ad cs s.heap st H locs) : W p l e (mm_R 2 44) s m args below meth c H locs 0 0 (MQ below (mm_Qi D o ad cs r st') args s 0 0 (mm_A o ad)) (F0 m 0 ls []) := by
  unfold M_shift at hf
  refine lv_aload_n C.1 C.2.1 (dd_at td_shift 0 rfl) rfl (lv_at hl 0 rfl) ?_
  refine lv_iload_n C.1 C.2.1 (dd_at td_shift 1 rfl) rfl (lv_at hl 1 rfl) ?_
  obtain ⟨r3, st1, hx2, hf⟩ := fc_of_bn hf
  refine mm_ci (As := [.int x1]) (rest := []) (n := 1) C hM (c_isTape l D o ad cs fu x1 st) (List.mem_of_getElem? (i := 24) rfl) (dd_at td_shift 2 rfl) hx2 hl.1 hd_isTape ⟨Nat.le_of_ble_eq_true rfl, Nat.le_of_ble_eq_true rfl⟩ rfl rfl (Nat.le_of_ble_eq_true rfl) ⟨Nat.le_refl 0, Nat.le_refl 0⟩ (fun H locs hM => ?_)
  refine lv_if_eq (tgt := 16) C.1 C.2.1 (dd_at td_shift 3 rfl) (by decide) (fun c4 => ?_) (fun c4 => ?_)
  · replace hf := fc_of_t hf c4
    refine lv_iconst (v := (-1 : Int32)) C.1 C.2.1 (dd_at td_shift 8 rfl) (by decide) ?_
    exact mm_ri C hM (dd_at td_shift 9 rfl) hf
  · replace hf := fc_of_f hf c4
    refine lv_aload_n C.1 C.2.1 (dd_at td_shift 4 rfl) rfl (lv_at hl 0 rfl) ?_
    refine lv_iload_n C.1 C.2.1 (dd_at td_shift 5 rfl) rfl (lv_at hl 3 rfl) ?_
    obtain ⟨r7, st5, hx6, hf⟩ := fc_of_bn hf
    refine mm_ci (As := [.int x3]) (rest := []) (n := 1) C hM (c_isTape l D o ad cs fu x3 st1) (List.mem_of_getElem? (i := 24) rfl) (dd_at td_shift 6 rfl) hx6 hl.1 hd_isTape ⟨Nat.le_of_ble_eq_true rfl, Nat.le_of_ble_eq_true rfl⟩ rfl rfl (Nat.le_of_ble_eq_true rfl) ⟨Nat.le_refl 0, Nat.le_refl 0⟩ (fun H locs hM => ?_)
    refine lv_if_ne (tgt := 18) C.1 C.2.1 (dd_at td_shift 7 rfl) (by decide) (fun c8 => ?_) (fun c8 => ?_)
    · replace hf := fc_of_f hf c8
      refine lv_aload_n C.1 C.2.1 (dd_at td_shift 10 rfl) rfl (lv_at hl 0 rfl) ?_
      refine mm_gA C hM 59 (dd_at td_shift 11 rfl) (by decide) (by decide) (by decide) ?_
      refine lv_iload_n C.1 C.2.1 (dd_at td_shift 12 rfl) rfl (lv_at hl 1 rfl) ?_
      obtain ⟨g9, hf⟩ := fc_of_gd hf
      refine mm_iald C hM 59 (dd_at td_shift 13 rfl) (by decide) (by decide) (fc_of_ix g9) ?_
      refine lv_if_lt (tgt := 36) C.1 C.2.1 (dd_at td_shift 14 rfl) (by decide) (fun c10 => ?_) (fun c10 => ?_)
      · replace hf := fc_of_t hf c10
        refine lv_bipush (v := (-11 : Int32)) C.1 C.2.1 (dd_at td_shift 20 rfl) (by decide) ?_
        exact mm_ri C hM (dd_at td_shift 21 rfl) hf
      · replace hf := fc_of_f hf c10
        refine lv_aload_n C.1 C.2.1 (dd_at td_shift 15 rfl) rfl (lv_at hl 0 rfl) ?_
        refine mm_gA C hM 59 (dd_at td_shift 16 rfl) (by decide) (by decide) (by decide) ?_
        refine lv_iload_n C.1 C.2.1 (dd_at td_shift 17 rfl) rfl (lv_at hl 3 rfl) ?_
        obtain ⟨g11, hf⟩ := fc_of_gd hf
        refine mm_iald C hM 59 (dd_at td_shift 18 rfl) (by decide) (by decide) (fc_of_ix g11) ?_
        refine lv_if_ge (tgt := 39) C.1 C.2.1 (dd_at td_shift 19 rfl) (by decide) (fun c12 => ?_) (fun c12 => ?_)
        · replace hf := fc_of_t hf c12
          refine lv_aload_n C.1 C.2.1 (dd_at td_shift 22 rfl) rfl (lv_at hl 0 rfl) ?_
          refine mm_gA C hM 59 (dd_at td_shift 23 rfl) (by decide) (by decide) (by decide) ?_
          refine lv_iload_n C.1 C.2.1 (dd_at td_shift 24 rfl) rfl (lv_at hl 1 rfl) ?_
          obtain ⟨g13, hf⟩ := fc_of_gd hf
          refine mm_iald C hM 59 (dd_at td_shift 25 rfl) (by decide) (by decide) (fc_of_ix g13) ?_
          refine lv_aload_n C.1 C.2.1 (dd_at td_shift 26 rfl) rfl (lv_at hl 0 rfl) ?_
          refine mm_gA C hM 59 (dd_at td_shift 27 rfl) (by decide) (by decide) (by decide) ?_
          refine lv_iload_n C.1 C.2.1 (dd_at td_shift 28 rfl) rfl (lv_at hl 3 rfl) ?_
          obtain ⟨g14, hf⟩ := fc_of_gd hf
          refine mm_iald C hM 59 (dd_at td_shift 29 rfl) (by decide) (by decide) (fc_of_ix g14) ?_
          refine lv_icmp_eq (tgt := 57) C.1 C.2.1 (dd_at td_shift 30 rfl) (by decide) (fun c15 => ?_) (fun c15 => ?_)
          · replace hf := fc_of_t hf c15
            refine lv_iload C.1 C.2.1 (dd_at td_shift 33 rfl) (lv_at hl 5 rfl) ?_
            refine lv_if_lt (tgt := 98) C.1 C.2.1 (dd_at td_shift 34 rfl) (by decide) (fun c16 => ?_) (fun c16 => ?_)
            · replace hf := fc_of_t hf c16
              refine lv_bipush (v := (-13 : Int32)) C.1 C.2.1 (dd_at td_shift 55 rfl) (by decide) ?_
              exact mm_ri C hM (dd_at td_shift 56 rfl) hf
            · replace hf := fc_of_f hf c16
              refine lv_iload_n C.1 C.2.1 (dd_at td_shift 35 rfl) rfl (lv_at hl 2 rfl) ?_
              refine lv_if_lt (tgt := 98) C.1 C.2.1 (dd_at td_shift 36 rfl) (by decide) (fun c17 => ?_) (fun c17 => ?_)
              · replace hf := fc_of_t hf c17
                refine lv_bipush (v := (-13 : Int32)) C.1 C.2.1 (dd_at td_shift 55 rfl) (by decide) ?_
                exact mm_ri C hM (dd_at td_shift 56 rfl) hf
              · replace hf := fc_of_f hf c17
                refine lv_iload C.1 C.2.1 (dd_at td_shift 37 rfl) (lv_at hl 4 rfl) ?_
                refine lv_if_lt (tgt := 98) C.1 C.2.1 (dd_at td_shift 38 rfl) (by decide) (fun c18 => ?_) (fun c18 => ?_)
                · replace hf := fc_of_t hf c18
                  refine lv_bipush (v := (-13 : Int32)) C.1 C.2.1 (dd_at td_shift 55 rfl) (by decide) ?_
                  exact mm_ri C hM (dd_at td_shift 56 rfl) hf
                · replace hf := fc_of_f hf c18
                  refine lv_iload_n C.1 C.2.1 (dd_at td_shift 39 rfl) rfl (lv_at hl 2 rfl) ?_
                  refine lv_aload_n C.1 C.2.1 (dd_at td_shift 40 rfl) rfl (lv_at hl 0 rfl) ?_
                  refine mm_gA C hM 60 (dd_at td_shift 41 rfl) (by decide) (by decide) (by decide) ?_
                  refine lv_iload_n C.1 C.2.1 (dd_at td_shift 42 rfl) rfl (lv_at hl 1 rfl) ?_
                  obtain ⟨g19, hf⟩ := fc_of_gd hf
                  refine mm_iald C hM 60 (dd_at td_shift 43 rfl) (by decide) (by decide) (fc_of_ix g19) ?_
                  refine lv_iload C.1 C.2.1 (dd_at td_shift 44 rfl) (lv_at hl 5 rfl) ?_
                  refine lv_isub C.1 C.2.1 (dd_at td_shift 45 rfl) ?_
                  refine lv_icmp_gt (tgt := 98) C.1 C.2.1 (dd_at td_shift 46 rfl) (by decide) (fun c20 => ?_) (fun c20 => ?_)
                  · replace hf := fc_of_t hf c20
                    refine lv_bipush (v := (-13 : Int32)) C.1 C.2.1 (dd_at td_shift 55 rfl) (by decide) ?_
                    exact mm_ri C hM (dd_at td_shift 56 rfl) hf
                  · replace hf := fc_of_f hf c20
                    refine lv_iload C.1 C.2.1 (dd_at td_shift 47 rfl) (lv_at hl 4 rfl) ?_
                    refine lv_aload_n C.1 C.2.1 (dd_at td_shift 48 rfl) rfl (lv_at hl 0 rfl) ?_
                    refine mm_gA C hM 60 (dd_at td_shift 49 rfl) (by decide) (by decide) (by decide) ?_
                    refine lv_iload_n C.1 C.2.1 (dd_at td_shift 50 rfl) rfl (lv_at hl 3 rfl) ?_
                    obtain ⟨g21, hf⟩ := fc_of_gd hf
                    refine mm_iald C hM 60 (dd_at td_shift 51 rfl) (by decide) (by decide) (fc_of_ix g21) ?_
                    refine lv_iload C.1 C.2.1 (dd_at td_shift 52 rfl) (lv_at hl 5 rfl) ?_
                    refine lv_isub C.1 C.2.1 (dd_at td_shift 53 rfl) ?_
                    refine lv_icmp_le (tgt := 101) C.1 C.2.1 (dd_at td_shift 54 rfl) (by decide) (fun c22 => ?_) (fun c22 => ?_)
                    · replace hf := fc_of_t hf c22
                      refine lv_iconst (v := (0 : Int32)) C.1 C.2.1 (dd_at td_shift 57 rfl) (by decide) ?_
                      refine lv_istore (lv' := [(6, .int (0 : Int32)), (0, .ref o), (1, .int x1), (2, .int x2), (3, .int x3), (4, .int x4), (5, .int x5)]) C.1 C.2.1 (dd_at td_shift 58 rfl) hl (by decide) rfl (fun ls hl => ?_)
                      exact w_shift_b104 C fu fu x1 x2 x3 x4 x5 (0 : Int32) st5 hf _ _ _ (lv_sub hl [1, 2, 3, 4, 5, 6, 0] rfl) hM
                    · replace hf := fc_of_f hf c22
                      refine lv_bipush (v := (-13 : Int32)) C.1 C.2.1 (dd_at td_shift 55 rfl) (by decide) ?_
                      exact mm_ri C hM (dd_at td_shift 56 rfl) hf
          · replace hf := fc_of_f hf c15
            refine lv_bipush (v := (-12 : Int32)) C.1 C.2.1 (dd_at td_shift 31 rfl) (by decide) ?_
            exact mm_ri C hM (dd_at td_shift 32 rfl) hf
        · replace hf := fc_of_f hf c12
          refine lv_bipush (v := (-11 : Int32)) C.1 C.2.1 (dd_at td_shift 20 rfl) (by decide) ?_
          exact mm_ri C hM (dd_at td_shift 21 rfl) hf
    · replace hf := fc_of_t hf c8
      refine lv_iconst (v := (-1 : Int32)) C.1 C.2.1 (dd_at td_shift 8 rfl) (by decide) ?_
      exact mm_ri C hM (dd_at td_shift 9 rfl) hf
theorem c_shift (l : Launch) (D : va_G) (o : Nat) (ad : Nat → Nat) (cs : ClassId × ClassId × ClassId) (fu : Nat) (x1 : Int32) (x2 : Int32) (x3 : Int32) (x4 : Int32) (x5 : Int32) (st : mm_S) : mm_Mi l D o ad cs yX12_shift cX12_shift 7 (some .int) 2 44 [.int x1, .int x2, .int x3, .int x4, .int x5] st (M_shift fu x1 x2 x3 x4 x5 st) := by
  intro r st' hf
  refine mm_enter (cc := cX12_shift) (nL := 7) (ret := some .int) (by decide) rfl (Nat.le_of_ble_eq_true rfl) ?_
  intro p e s m args below meth c ls C hl hM
  exact w_shift C fu x1 x2 x3 x4 x5 st hf hl hM
end
