section
-- ===== PART A: goes FIRST, ahead of the names: the tables' words, and 'selects' of the private methods out of them =====
/-- a private method of a class that the tables say can be made, by its rows of tables_1 -/
def lw_okq (q : MethodName × Nat) : Prop := (q.1.cls ≠ "java/lang/invoke/MethodHandle" ∧ q.1.cls ≠ "java/lang/invoke/VarHandle") ∧ Cond.instantiable q.1.cls q.2 ∈ tables_1 ∧ Cond.privateMethod q.1 ∈ tables_1 ∧ Cond.instanceMethod q.1 ∈ tables_1
theorem lw_p0 : lw_okq (⟨"EclipsesKept", "made", "(III)LEclipsesKept$Need;"⟩, 8) := ⟨⟨by decide +kernel, by decide +kernel⟩, List.mem_of_getElem? (i := 27) (by decide +kernel), List.mem_of_getElem? (i := 238) (by decide +kernel), List.mem_of_getElem? (i := 239) (by decide +kernel)⟩
theorem lw_p1 : lw_okq (⟨"EclipsesKept$Archive", "holdsFor", "(IIIIII)Z"⟩, 10) := ⟨⟨by decide +kernel, by decide +kernel⟩, List.mem_of_getElem? (i := 366) (by decide +kernel), List.mem_of_getElem? (i := 364) (by decide +kernel), List.mem_of_getElem? (i := 365) (by decide +kernel)⟩
theorem lw_p2 : lw_okq (⟨"EclipsesKept$Archive", "takesClauses", "()Z"⟩, 10) := ⟨⟨by decide +kernel, by decide +kernel⟩, List.mem_of_getElem? (i := 366) (by decide +kernel), List.mem_of_getElem? (i := 605) (by decide +kernel), List.mem_of_getElem? (i := 606) (by decide +kernel)⟩
theorem lw_p3 : lw_okq (⟨"EclipsesKept$Archive", "takesClause", "()Z"⟩, 10) := ⟨⟨by decide +kernel, by decide +kernel⟩, List.mem_of_getElem? (i := 366) (by decide +kernel), List.mem_of_getElem? (i := 609) (by decide +kernel), List.mem_of_getElem? (i := 610) (by decide +kernel)⟩
theorem lw_p4 : lw_okq (⟨"EclipsesKept$Archive", "sees", "(C)Z"⟩, 10) := ⟨⟨by decide +kernel, by decide +kernel⟩, List.mem_of_getElem? (i := 366) (by decide +kernel), List.mem_of_getElem? (i := 613) (by decide +kernel), List.mem_of_getElem? (i := 614) (by decide +kernel)⟩
theorem lw_p5 : lw_okq (⟨"EclipsesKept$Archive", "takesWord", "(Ljava/lang/String;)Z"⟩, 10) := ⟨⟨by decide +kernel, by decide +kernel⟩, List.mem_of_getElem? (i := 366) (by decide +kernel), List.mem_of_getElem? (i := 643) (by decide +kernel), List.mem_of_getElem? (i := 644) (by decide +kernel)⟩
theorem lw_p6 : lw_okq (⟨"EclipsesKept$Archive", "takes", "(C)Z"⟩, 10) := ⟨⟨by decide +kernel, by decide +kernel⟩, List.mem_of_getElem? (i := 366) (by decide +kernel), List.mem_of_getElem? (i := 647) (by decide +kernel), List.mem_of_getElem? (i := 648) (by decide +kernel)⟩
theorem lw_p7 : lw_okq (⟨"EclipsesKept$Archive", "takesNumber", "()I"⟩, 10) := ⟨⟨by decide +kernel, by decide +kernel⟩, List.mem_of_getElem? (i := 366) (by decide +kernel), List.mem_of_getElem? (i := 651) (by decide +kernel), List.mem_of_getElem? (i := 652) (by decide +kernel)⟩
theorem lw_p8 : lw_okq (⟨"EclipsesKept$Archive", "takesEither", "(I)Z"⟩, 10) := ⟨⟨by decide +kernel, by decide +kernel⟩, List.mem_of_getElem? (i := 366) (by decide +kernel), List.mem_of_getElem? (i := 656) (by decide +kernel), List.mem_of_getElem? (i := 657) (by decide +kernel)⟩
theorem lw_p9 : lw_okq (⟨"EclipsesKept$Archive", "takesBoth", "(I)Z"⟩, 10) := ⟨⟨by decide +kernel, by decide +kernel⟩, List.mem_of_getElem? (i := 366) (by decide +kernel), List.mem_of_getElem? (i := 660) (by decide +kernel), List.mem_of_getElem? (i := 661) (by decide +kernel)⟩
theorem lw_p10 : lw_okq (⟨"EclipsesKept$Archive", "takesPart", "(I)Z"⟩, 10) := ⟨⟨by decide +kernel, by decide +kernel⟩, List.mem_of_getElem? (i := 366) (by decide +kernel), List.mem_of_getElem? (i := 664) (by decide +kernel), List.mem_of_getElem? (i := 665) (by decide +kernel)⟩
theorem lw_p11 : lw_okq (⟨"EclipsesKept$Archive", "put", "(I)V"⟩, 10) := ⟨⟨by decide +kernel, by decide +kernel⟩, List.mem_of_getElem? (i := 366) (by decide +kernel), List.mem_of_getElem? (i := 668) (by decide +kernel), List.mem_of_getElem? (i := 669) (by decide +kernel)⟩
theorem lw_p12 : lw_okq (⟨"EclipsesKept$Archive", "takesTest", "()Z"⟩, 10) := ⟨⟨by decide +kernel, by decide +kernel⟩, List.mem_of_getElem? (i := 366) (by decide +kernel), List.mem_of_getElem? (i := 672) (by decide +kernel), List.mem_of_getElem? (i := 673) (by decide +kernel)⟩
theorem lw_p13 : lw_okq (⟨"EclipsesKept$Archive", "takesOneOf", "(Ljava/lang/String;)C"⟩, 10) := ⟨⟨by decide +kernel, by decide +kernel⟩, List.mem_of_getElem? (i := 366) (by decide +kernel), List.mem_of_getElem? (i := 677) (by decide +kernel), List.mem_of_getElem? (i := 678) (by decide +kernel)⟩
theorem lw_p14 : lw_okq (⟨"EclipsesKept", "onTheMean", "(IIII)J"⟩, 8) := ⟨⟨by decide +kernel, by decide +kernel⟩, List.mem_of_getElem? (i := 27) (by decide +kernel), List.mem_of_getElem? (i := 806) (by decide +kernel), List.mem_of_getElem? (i := 807) (by decide +kernel)⟩
theorem lw_p15 : lw_okq (⟨"EclipsesKept", "isAsked", "(II)Z"⟩, 8) := ⟨⟨by decide +kernel, by decide +kernel⟩, List.mem_of_getElem? (i := 27) (by decide +kernel), List.mem_of_getElem? (i := 810) (by decide +kernel), List.mem_of_getElem? (i := 811) (by decide +kernel)⟩
def lw_privs_1 : List (MethodName × Nat) := [(⟨"EclipsesKept", "made", "(III)LEclipsesKept$Need;"⟩, 8), (⟨"EclipsesKept$Archive", "holdsFor", "(IIIIII)Z"⟩, 10), (⟨"EclipsesKept$Archive", "takesClauses", "()Z"⟩, 10), (⟨"EclipsesKept$Archive", "takesClause", "()Z"⟩, 10), (⟨"EclipsesKept$Archive", "sees", "(C)Z"⟩, 10), (⟨"EclipsesKept$Archive", "takesWord", "(Ljava/lang/String;)Z"⟩, 10), (⟨"EclipsesKept$Archive", "takes", "(C)Z"⟩, 10), (⟨"EclipsesKept$Archive", "takesNumber", "()I"⟩, 10), (⟨"EclipsesKept$Archive", "takesEither", "(I)Z"⟩, 10), (⟨"EclipsesKept$Archive", "takesBoth", "(I)Z"⟩, 10), (⟨"EclipsesKept$Archive", "takesPart", "(I)Z"⟩, 10), (⟨"EclipsesKept$Archive", "put", "(I)V"⟩, 10), (⟨"EclipsesKept$Archive", "takesTest", "()Z"⟩, 10), (⟨"EclipsesKept$Archive", "takesOneOf", "(Ljava/lang/String;)C"⟩, 10), (⟨"EclipsesKept", "onTheMean", "(IIII)J"⟩, 8), (⟨"EclipsesKept", "isAsked", "(II)Z"⟩, 8)]
theorem lw_r1 : ∀ q ∈ lw_privs_1, lw_okq q := List.forall_mem_cons.mpr ⟨lw_p0, List.forall_mem_cons.mpr ⟨lw_p1, List.forall_mem_cons.mpr ⟨lw_p2, List.forall_mem_cons.mpr ⟨lw_p3, List.forall_mem_cons.mpr ⟨lw_p4, List.forall_mem_cons.mpr ⟨lw_p5, List.forall_mem_cons.mpr ⟨lw_p6, List.forall_mem_cons.mpr ⟨lw_p7, List.forall_mem_cons.mpr ⟨lw_p8, List.forall_mem_cons.mpr ⟨lw_p9, List.forall_mem_cons.mpr ⟨lw_p10, List.forall_mem_cons.mpr ⟨lw_p11, List.forall_mem_cons.mpr ⟨lw_p12, List.forall_mem_cons.mpr ⟨lw_p13, List.forall_mem_cons.mpr ⟨lw_p14, List.forall_mem_cons.mpr ⟨lw_p15, fun _ h => absurd h List.not_mem_nil⟩⟩⟩⟩⟩⟩⟩⟩⟩⟩⟩⟩⟩⟩⟩⟩
theorem lw_p16 : lw_okq (⟨"EclipsesKept$Years", "weigh", "(III)V"⟩, 8) := ⟨⟨by decide +kernel, by decide +kernel⟩, List.mem_of_getElem? (i := 117) (by decide +kernel), List.mem_of_getElem? (i := 828) (by decide +kernel), List.mem_of_getElem? (i := 829) (by decide +kernel)⟩
theorem lw_p17 : lw_okq (⟨"EclipsesKept$Years", "weighYear", "(IIII)J"⟩, 8) := ⟨⟨by decide +kernel, by decide +kernel⟩, List.mem_of_getElem? (i := 117) (by decide +kernel), List.mem_of_getElem? (i := 832) (by decide +kernel), List.mem_of_getElem? (i := 833) (by decide +kernel)⟩
theorem lw_p18 : lw_okq (⟨"EclipsesKept$Years", "ifServed", "(III)J"⟩, 8) := ⟨⟨by decide +kernel, by decide +kernel⟩, List.mem_of_getElem? (i := 117) (by decide +kernel), List.mem_of_getElem? (i := 840) (by decide +kernel), List.mem_of_getElem? (i := 841) (by decide +kernel)⟩
theorem lw_p19 : lw_okq (⟨"EclipsesKept$Years", "ifSpared", "(II)J"⟩, 8) := ⟨⟨by decide +kernel, by decide +kernel⟩, List.mem_of_getElem? (i := 117) (by decide +kernel), List.mem_of_getElem? (i := 844) (by decide +kernel), List.mem_of_getElem? (i := 845) (by decide +kernel)⟩
theorem lw_p20 : lw_okq (⟨"EclipsesKept", "tapeOf", "(I)LEclipsesKept$Tape;"⟩, 8) := ⟨⟨by decide +kernel, by decide +kernel⟩, List.mem_of_getElem? (i := 27) (by decide +kernel), List.mem_of_getElem? (i := 963) (by decide +kernel), List.mem_of_getElem? (i := 964) (by decide +kernel)⟩
theorem lw_p21 : lw_okq (⟨"EclipsesKeptModel", "in", "(III)Z"⟩, 63) := ⟨⟨by decide +kernel, by decide +kernel⟩, List.mem_of_getElem? (i := 1130) (by decide +kernel), List.mem_of_getElem? (i := 1331) (by decide +kernel), List.mem_of_getElem? (i := 1332) (by decide +kernel)⟩
theorem lw_p22 : lw_okq (⟨"EclipsesKeptModel", "isDarks", "(I)Z"⟩, 63) := ⟨⟨by decide +kernel, by decide +kernel⟩, List.mem_of_getElem? (i := 1130) (by decide +kernel), List.mem_of_getElem? (i := 1339) (by decide +kernel), List.mem_of_getElem? (i := 1340) (by decide +kernel)⟩
theorem lw_p23 : lw_okq (⟨"EclipsesKeptModel", "isNeed", "(I)Z"⟩, 63) := ⟨⟨by decide +kernel, by decide +kernel⟩, List.mem_of_getElem? (i := 1130) (by decide +kernel), List.mem_of_getElem? (i := 1347) (by decide +kernel), List.mem_of_getElem? (i := 1348) (by decide +kernel)⟩
theorem lw_p24 : lw_okq (⟨"EclipsesKeptModel", "goesText", "(I)Z"⟩, 63) := ⟨⟨by decide +kernel, by decide +kernel⟩, List.mem_of_getElem? (i := 1130) (by decide +kernel), List.mem_of_getElem? (i := 1359) (by decide +kernel), List.mem_of_getElem? (i := 1360) (by decide +kernel)⟩
theorem lw_p25 : lw_okq (⟨"EclipsesKeptModel", "takesClause", "(I)Z"⟩, 63) := ⟨⟨by decide +kernel, by decide +kernel⟩, List.mem_of_getElem? (i := 1130) (by decide +kernel), List.mem_of_getElem? (i := 1363) (by decide +kernel), List.mem_of_getElem? (i := 1364) (by decide +kernel)⟩
theorem lw_p26 : lw_okq (⟨"EclipsesKeptModel", "takesHead", "(I)Z"⟩, 63) := ⟨⟨by decide +kernel, by decide +kernel⟩, List.mem_of_getElem? (i := 1130) (by decide +kernel), List.mem_of_getElem? (i := 1367) (by decide +kernel), List.mem_of_getElem? (i := 1368) (by decide +kernel)⟩
theorem lw_p27 : lw_okq (⟨"EclipsesKeptModel", "next", "()I"⟩, 63) := ⟨⟨by decide +kernel, by decide +kernel⟩, List.mem_of_getElem? (i := 1130) (by decide +kernel), List.mem_of_getElem? (i := 1371) (by decide +kernel), List.mem_of_getElem? (i := 1372) (by decide +kernel)⟩
theorem lw_p28 : lw_okq (⟨"EclipsesKeptModel", "takesWord", "(II)Z"⟩, 63) := ⟨⟨by decide +kernel, by decide +kernel⟩, List.mem_of_getElem? (i := 1130) (by decide +kernel), List.mem_of_getElem? (i := 1375) (by decide +kernel), List.mem_of_getElem? (i := 1376) (by decide +kernel)⟩
theorem lw_p29 : lw_okq (⟨"EclipsesKeptModel", "takes", "(I)Z"⟩, 63) := ⟨⟨by decide +kernel, by decide +kernel⟩, List.mem_of_getElem? (i := 1130) (by decide +kernel), List.mem_of_getElem? (i := 1379) (by decide +kernel), List.mem_of_getElem? (i := 1380) (by decide +kernel)⟩
theorem lw_p30 : lw_okq (⟨"EclipsesKeptModel", "takesNumber", "()Z"⟩, 63) := ⟨⟨by decide +kernel, by decide +kernel⟩, List.mem_of_getElem? (i := 1130) (by decide +kernel), List.mem_of_getElem? (i := 1383) (by decide +kernel), List.mem_of_getElem? (i := 1384) (by decide +kernel)⟩
theorem lw_p31 : lw_okq (⟨"EclipsesKeptModel", "isDigit", "()Z"⟩, 63) := ⟨⟨by decide +kernel, by decide +kernel⟩, List.mem_of_getElem? (i := 1130) (by decide +kernel), List.mem_of_getElem? (i := 1387) (by decide +kernel), List.mem_of_getElem? (i := 1388) (by decide +kernel)⟩
def lw_privs_2 : List (MethodName × Nat) := [(⟨"EclipsesKept$Years", "weigh", "(III)V"⟩, 8), (⟨"EclipsesKept$Years", "weighYear", "(IIII)J"⟩, 8), (⟨"EclipsesKept$Years", "ifServed", "(III)J"⟩, 8), (⟨"EclipsesKept$Years", "ifSpared", "(II)J"⟩, 8), (⟨"EclipsesKept", "tapeOf", "(I)LEclipsesKept$Tape;"⟩, 8), (⟨"EclipsesKeptModel", "in", "(III)Z"⟩, 63), (⟨"EclipsesKeptModel", "isDarks", "(I)Z"⟩, 63), (⟨"EclipsesKeptModel", "isNeed", "(I)Z"⟩, 63), (⟨"EclipsesKeptModel", "goesText", "(I)Z"⟩, 63), (⟨"EclipsesKeptModel", "takesClause", "(I)Z"⟩, 63), (⟨"EclipsesKeptModel", "takesHead", "(I)Z"⟩, 63), (⟨"EclipsesKeptModel", "next", "()I"⟩, 63), (⟨"EclipsesKeptModel", "takesWord", "(II)Z"⟩, 63), (⟨"EclipsesKeptModel", "takes", "(I)Z"⟩, 63), (⟨"EclipsesKeptModel", "takesNumber", "()Z"⟩, 63), (⟨"EclipsesKeptModel", "isDigit", "()Z"⟩, 63)]
theorem lw_r2 : ∀ q ∈ lw_privs_2, lw_okq q := List.forall_mem_cons.mpr ⟨lw_p16, List.forall_mem_cons.mpr ⟨lw_p17, List.forall_mem_cons.mpr ⟨lw_p18, List.forall_mem_cons.mpr ⟨lw_p19, List.forall_mem_cons.mpr ⟨lw_p20, List.forall_mem_cons.mpr ⟨lw_p21, List.forall_mem_cons.mpr ⟨lw_p22, List.forall_mem_cons.mpr ⟨lw_p23, List.forall_mem_cons.mpr ⟨lw_p24, List.forall_mem_cons.mpr ⟨lw_p25, List.forall_mem_cons.mpr ⟨lw_p26, List.forall_mem_cons.mpr ⟨lw_p27, List.forall_mem_cons.mpr ⟨lw_p28, List.forall_mem_cons.mpr ⟨lw_p29, List.forall_mem_cons.mpr ⟨lw_p30, List.forall_mem_cons.mpr ⟨lw_p31, fun _ h => absurd h List.not_mem_nil⟩⟩⟩⟩⟩⟩⟩⟩⟩⟩⟩⟩⟩⟩⟩⟩
theorem lw_p32 : lw_okq (⟨"EclipsesKeptModel", "takesE", "(I)Z"⟩, 63) := ⟨⟨by decide +kernel, by decide +kernel⟩, List.mem_of_getElem? (i := 1130) (by decide +kernel), List.mem_of_getElem? (i := 1391) (by decide +kernel), List.mem_of_getElem? (i := 1392) (by decide +kernel)⟩
theorem lw_p33 : lw_okq (⟨"EclipsesKeptModel", "takesTest", "()Z"⟩, 63) := ⟨⟨by decide +kernel, by decide +kernel⟩, List.mem_of_getElem? (i := 1130) (by decide +kernel), List.mem_of_getElem? (i := 1395) (by decide +kernel), List.mem_of_getElem? (i := 1396) (by decide +kernel)⟩
theorem lw_p34 : lw_okq (⟨"EclipsesKeptModel", "place", "(I)I"⟩, 63) := ⟨⟨by decide +kernel, by decide +kernel⟩, List.mem_of_getElem? (i := 1130) (by decide +kernel), List.mem_of_getElem? (i := 1399) (by decide +kernel), List.mem_of_getElem? (i := 1400) (by decide +kernel)⟩
theorem lw_p35 : lw_okq (⟨"EclipsesKeptModel", "emits", "(I)V"⟩, 63) := ⟨⟨by decide +kernel, by decide +kernel⟩, List.mem_of_getElem? (i := 1130) (by decide +kernel), List.mem_of_getElem? (i := 1403) (by decide +kernel), List.mem_of_getElem? (i := 1404) (by decide +kernel)⟩
theorem lw_p36 : lw_okq (⟨"EclipsesKeptModel", "whole", "()V"⟩, 63) := ⟨⟨by decide +kernel, by decide +kernel⟩, List.mem_of_getElem? (i := 1130) (by decide +kernel), List.mem_of_getElem? (i := 1407) (by decide +kernel), List.mem_of_getElem? (i := 1408) (by decide +kernel)⟩
theorem lw_p37 : lw_okq (⟨"EclipsesKeptModel", "settle", "(I)V"⟩, 63) := ⟨⟨by decide +kernel, by decide +kernel⟩, List.mem_of_getElem? (i := 1130) (by decide +kernel), List.mem_of_getElem? (i := 1411) (by decide +kernel), List.mem_of_getElem? (i := 1412) (by decide +kernel)⟩
theorem lw_p38 : lw_okq (⟨"EclipsesKeptModel", "worthOf", "(III)I"⟩, 63) := ⟨⟨by decide +kernel, by decide +kernel⟩, List.mem_of_getElem? (i := 1130) (by decide +kernel), List.mem_of_getElem? (i := 1419) (by decide +kernel), List.mem_of_getElem? (i := 1420) (by decide +kernel)⟩
theorem lw_p39 : lw_okq (⟨"EclipsesKeptModel", "base", "(III)I"⟩, 63) := ⟨⟨by decide +kernel, by decide +kernel⟩, List.mem_of_getElem? (i := 1130) (by decide +kernel), List.mem_of_getElem? (i := 1423) (by decide +kernel), List.mem_of_getElem? (i := 1424) (by decide +kernel)⟩
theorem lw_p40 : lw_okq (⟨"EclipsesKeptModel", "begin", "()I"⟩, 63) := ⟨⟨by decide +kernel, by decide +kernel⟩, List.mem_of_getElem? (i := 1130) (by decide +kernel), List.mem_of_getElem? (i := 1427) (by decide +kernel), List.mem_of_getElem? (i := 1428) (by decide +kernel)⟩
theorem lw_p41 : lw_okq (⟨"EclipsesKeptModel", "behind", "()I"⟩, 63) := ⟨⟨by decide +kernel, by decide +kernel⟩, List.mem_of_getElem? (i := 1130) (by decide +kernel), List.mem_of_getElem? (i := 1431) (by decide +kernel), List.mem_of_getElem? (i := 1432) (by decide +kernel)⟩
theorem lw_p42 : lw_okq (⟨"EclipsesKeptModel", "holds", "(IIII)Z"⟩, 63) := ⟨⟨by decide +kernel, by decide +kernel⟩, List.mem_of_getElem? (i := 1130) (by decide +kernel), List.mem_of_getElem? (i := 1435) (by decide +kernel), List.mem_of_getElem? (i := 1436) (by decide +kernel)⟩
theorem lw_p43 : lw_okq (⟨"EclipsesKeptModel", "factOf", "(IIII)I"⟩, 63) := ⟨⟨by decide +kernel, by decide +kernel⟩, List.mem_of_getElem? (i := 1130) (by decide +kernel), List.mem_of_getElem? (i := 1439) (by decide +kernel), List.mem_of_getElem? (i := 1440) (by decide +kernel)⟩
theorem lw_p44 : lw_okq (⟨"EclipsesKeptModel", "keep", "()I"⟩, 63) := ⟨⟨by decide +kernel, by decide +kernel⟩, List.mem_of_getElem? (i := 1130) (by decide +kernel), List.mem_of_getElem? (i := 1453) (by decide +kernel), List.mem_of_getElem? (i := 1454) (by decide +kernel)⟩
theorem lw_p45 : lw_okq (⟨"EclipsesKeptModel", "held", "(I)I"⟩, 63) := ⟨⟨by decide +kernel, by decide +kernel⟩, List.mem_of_getElem? (i := 1130) (by decide +kernel), List.mem_of_getElem? (i := 1457) (by decide +kernel), List.mem_of_getElem? (i := 1458) (by decide +kernel)⟩
theorem lw_p46 : lw_okq (⟨"EclipsesKeptModel", "isAsked", "(II)Z"⟩, 63) := ⟨⟨by decide +kernel, by decide +kernel⟩, List.mem_of_getElem? (i := 1130) (by decide +kernel), List.mem_of_getElem? (i := 1475) (by decide +kernel), List.mem_of_getElem? (i := 1476) (by decide +kernel)⟩
theorem lw_p47 : lw_okq (⟨"EclipsesKeptModel", "isYears", "(I)Z"⟩, 63) := ⟨⟨by decide +kernel, by decide +kernel⟩, List.mem_of_getElem? (i := 1130) (by decide +kernel), List.mem_of_getElem? (i := 1479) (by decide +kernel), List.mem_of_getElem? (i := 1480) (by decide +kernel)⟩
def lw_privs_3 : List (MethodName × Nat) := [(⟨"EclipsesKeptModel", "takesE", "(I)Z"⟩, 63), (⟨"EclipsesKeptModel", "takesTest", "()Z"⟩, 63), (⟨"EclipsesKeptModel", "place", "(I)I"⟩, 63), (⟨"EclipsesKeptModel", "emits", "(I)V"⟩, 63), (⟨"EclipsesKeptModel", "whole", "()V"⟩, 63), (⟨"EclipsesKeptModel", "settle", "(I)V"⟩, 63), (⟨"EclipsesKeptModel", "worthOf", "(III)I"⟩, 63), (⟨"EclipsesKeptModel", "base", "(III)I"⟩, 63), (⟨"EclipsesKeptModel", "begin", "()I"⟩, 63), (⟨"EclipsesKeptModel", "behind", "()I"⟩, 63), (⟨"EclipsesKeptModel", "holds", "(IIII)Z"⟩, 63), (⟨"EclipsesKeptModel", "factOf", "(IIII)I"⟩, 63), (⟨"EclipsesKeptModel", "keep", "()I"⟩, 63), (⟨"EclipsesKeptModel", "held", "(I)I"⟩, 63), (⟨"EclipsesKeptModel", "isAsked", "(II)Z"⟩, 63), (⟨"EclipsesKeptModel", "isYears", "(I)Z"⟩, 63)]
theorem lw_r3 : ∀ q ∈ lw_privs_3, lw_okq q := List.forall_mem_cons.mpr ⟨lw_p32, List.forall_mem_cons.mpr ⟨lw_p33, List.forall_mem_cons.mpr ⟨lw_p34, List.forall_mem_cons.mpr ⟨lw_p35, List.forall_mem_cons.mpr ⟨lw_p36, List.forall_mem_cons.mpr ⟨lw_p37, List.forall_mem_cons.mpr ⟨lw_p38, List.forall_mem_cons.mpr ⟨lw_p39, List.forall_mem_cons.mpr ⟨lw_p40, List.forall_mem_cons.mpr ⟨lw_p41, List.forall_mem_cons.mpr ⟨lw_p42, List.forall_mem_cons.mpr ⟨lw_p43, List.forall_mem_cons.mpr ⟨lw_p44, List.forall_mem_cons.mpr ⟨lw_p45, List.forall_mem_cons.mpr ⟨lw_p46, List.forall_mem_cons.mpr ⟨lw_p47, fun _ h => absurd h List.not_mem_nil⟩⟩⟩⟩⟩⟩⟩⟩⟩⟩⟩⟩⟩⟩⟩⟩
theorem lw_p48 : lw_okq (⟨"EclipsesKeptModel", "layGains", "(II)V"⟩, 63) := ⟨⟨by decide +kernel, by decide +kernel⟩, List.mem_of_getElem? (i := 1130) (by decide +kernel), List.mem_of_getElem? (i := 1484) (by decide +kernel), List.mem_of_getElem? (i := 1485) (by decide +kernel)⟩
theorem lw_p49 : lw_okq (⟨"EclipsesKeptModel", "gainOf", "(IIIII)J"⟩, 63) := ⟨⟨by decide +kernel, by decide +kernel⟩, List.mem_of_getElem? (i := 1130) (by decide +kernel), List.mem_of_getElem? (i := 1488) (by decide +kernel), List.mem_of_getElem? (i := 1489) (by decide +kernel)⟩
theorem lw_p50 : lw_okq (⟨"EclipsesKeptModel", "ifSpared", "(III)J"⟩, 63) := ⟨⟨by decide +kernel, by decide +kernel⟩, List.mem_of_getElem? (i := 1130) (by decide +kernel), List.mem_of_getElem? (i := 1492) (by decide +kernel), List.mem_of_getElem? (i := 1493) (by decide +kernel)⟩
theorem lw_p51 : lw_okq (⟨"EclipsesKeptModel", "ways", "(I)J"⟩, 63) := ⟨⟨by decide +kernel, by decide +kernel⟩, List.mem_of_getElem? (i := 1130) (by decide +kernel), List.mem_of_getElem? (i := 1496) (by decide +kernel), List.mem_of_getElem? (i := 1497) (by decide +kernel)⟩
theorem lw_p52 : lw_okq (⟨"EclipsesKeptModel", "ifServed", "(IIII)J"⟩, 63) := ⟨⟨by decide +kernel, by decide +kernel⟩, List.mem_of_getElem? (i := 1130) (by decide +kernel), List.mem_of_getElem? (i := 1500) (by decide +kernel), List.mem_of_getElem? (i := 1501) (by decide +kernel)⟩
theorem lw_p53 : lw_okq (⟨"EclipsesKeptModel", "has", "(II)Z"⟩, 63) := ⟨⟨by decide +kernel, by decide +kernel⟩, List.mem_of_getElem? (i := 1130) (by decide +kernel), List.mem_of_getElem? (i := 1504) (by decide +kernel), List.mem_of_getElem? (i := 1505) (by decide +kernel)⟩
theorem lw_p54 : lw_okq (⟨"EclipsesKeptModel", "lowest", "(JJI)J"⟩, 63) := ⟨⟨by decide +kernel, by decide +kernel⟩, List.mem_of_getElem? (i := 1130) (by decide +kernel), List.mem_of_getElem? (i := 1508) (by decide +kernel), List.mem_of_getElem? (i := 1509) (by decide +kernel)⟩
theorem lw_p55 : lw_okq (⟨"EclipsesKeptModel", "divisor", "(JJ)J"⟩, 63) := ⟨⟨by decide +kernel, by decide +kernel⟩, List.mem_of_getElem? (i := 1130) (by decide +kernel), List.mem_of_getElem? (i := 1512) (by decide +kernel), List.mem_of_getElem? (i := 1513) (by decide +kernel)⟩
theorem lw_p56 : lw_okq (⟨"EclipsesKeptModel", "bestSet", "()I"⟩, 63) := ⟨⟨by decide +kernel, by decide +kernel⟩, List.mem_of_getElem? (i := 1130) (by decide +kernel), List.mem_of_getElem? (i := 1552) (by decide +kernel), List.mem_of_getElem? (i := 1553) (by decide +kernel)⟩
theorem lw_p57 : lw_okq (⟨"EclipsesKeptModel", "bits", "(I)I"⟩, 63) := ⟨⟨by decide +kernel, by decide +kernel⟩, List.mem_of_getElem? (i := 1130) (by decide +kernel), List.mem_of_getElem? (i := 1556) (by decide +kernel), List.mem_of_getElem? (i := 1557) (by decide +kernel)⟩
theorem lw_p58 : lw_okq (⟨"EclipsesKeptModel", "gainBy", "(I)I"⟩, 63) := ⟨⟨by decide +kernel, by decide +kernel⟩, List.mem_of_getElem? (i := 1130) (by decide +kernel), List.mem_of_getElem? (i := 1560) (by decide +kernel), List.mem_of_getElem? (i := 1561) (by decide +kernel)⟩
theorem lw_p59 : lw_okq (⟨"EclipsesKeptModel", "isSeen", "(I)Z"⟩, 63) := ⟨⟨by decide +kernel, by decide +kernel⟩, List.mem_of_getElem? (i := 1130) (by decide +kernel), List.mem_of_getElem? (i := 1576) (by decide +kernel), List.mem_of_getElem? (i := 1577) (by decide +kernel)⟩
theorem lw_p60 : lw_okq (⟨"EclipsesKeptModel", "isTape", "(I)Z"⟩, 63) := ⟨⟨by decide +kernel, by decide +kernel⟩, List.mem_of_getElem? (i := 1130) (by decide +kernel), List.mem_of_getElem? (i := 1596) (by decide +kernel), List.mem_of_getElem? (i := 1597) (by decide +kernel)⟩
theorem lw_p61 : lw_okq (⟨"EclipsesKeptModel", "darkensAct", "(II)I"⟩, 63) := ⟨⟨by decide +kernel, by decide +kernel⟩, List.mem_of_getElem? (i := 1130) (by decide +kernel), List.mem_of_getElem? (i := 1612) (by decide +kernel), List.mem_of_getElem? (i := 1613) (by decide +kernel)⟩
theorem lw_p62 : lw_okq (⟨"EclipsesKeptModel", "body", "(I)V"⟩, 63) := ⟨⟨by decide +kernel, by decide +kernel⟩, List.mem_of_getElem? (i := 1130) (by decide +kernel), List.mem_of_getElem? (i := 1616) (by decide +kernel), List.mem_of_getElem? (i := 1617) (by decide +kernel)⟩
theorem lw_p63 : lw_okq (⟨"EclipsesKeptModel", "needDarkens", "(II)I"⟩, 63) := ⟨⟨by decide +kernel, by decide +kernel⟩, List.mem_of_getElem? (i := 1130) (by decide +kernel), List.mem_of_getElem? (i := 1620) (by decide +kernel), List.mem_of_getElem? (i := 1621) (by decide +kernel)⟩
def lw_privs_4 : List (MethodName × Nat) := [(⟨"EclipsesKeptModel", "layGains", "(II)V"⟩, 63), (⟨"EclipsesKeptModel", "gainOf", "(IIIII)J"⟩, 63), (⟨"EclipsesKeptModel", "ifSpared", "(III)J"⟩, 63), (⟨"EclipsesKeptModel", "ways", "(I)J"⟩, 63), (⟨"EclipsesKeptModel", "ifServed", "(IIII)J"⟩, 63), (⟨"EclipsesKeptModel", "has", "(II)Z"⟩, 63), (⟨"EclipsesKeptModel", "lowest", "(JJI)J"⟩, 63), (⟨"EclipsesKeptModel", "divisor", "(JJ)J"⟩, 63), (⟨"EclipsesKeptModel", "bestSet", "()I"⟩, 63), (⟨"EclipsesKeptModel", "bits", "(I)I"⟩, 63), (⟨"EclipsesKeptModel", "gainBy", "(I)I"⟩, 63), (⟨"EclipsesKeptModel", "isSeen", "(I)Z"⟩, 63), (⟨"EclipsesKeptModel", "isTape", "(I)Z"⟩, 63), (⟨"EclipsesKeptModel", "darkensAct", "(II)I"⟩, 63), (⟨"EclipsesKeptModel", "body", "(I)V"⟩, 63), (⟨"EclipsesKeptModel", "needDarkens", "(II)I"⟩, 63)]
theorem lw_r4 : ∀ q ∈ lw_privs_4, lw_okq q := List.forall_mem_cons.mpr ⟨lw_p48, List.forall_mem_cons.mpr ⟨lw_p49, List.forall_mem_cons.mpr ⟨lw_p50, List.forall_mem_cons.mpr ⟨lw_p51, List.forall_mem_cons.mpr ⟨lw_p52, List.forall_mem_cons.mpr ⟨lw_p53, List.forall_mem_cons.mpr ⟨lw_p54, List.forall_mem_cons.mpr ⟨lw_p55, List.forall_mem_cons.mpr ⟨lw_p56, List.forall_mem_cons.mpr ⟨lw_p57, List.forall_mem_cons.mpr ⟨lw_p58, List.forall_mem_cons.mpr ⟨lw_p59, List.forall_mem_cons.mpr ⟨lw_p60, List.forall_mem_cons.mpr ⟨lw_p61, List.forall_mem_cons.mpr ⟨lw_p62, List.forall_mem_cons.mpr ⟨lw_p63, fun _ h => absurd h List.not_mem_nil⟩⟩⟩⟩⟩⟩⟩⟩⟩⟩⟩⟩⟩⟩⟩⟩
theorem lw_p64 : lw_okq (⟨"EclipsesKeptModel", "pleadsAct", "(II)I"⟩, 63) := ⟨⟨by decide +kernel, by decide +kernel⟩, List.mem_of_getElem? (i := 1130) (by decide +kernel), List.mem_of_getElem? (i := 1624) (by decide +kernel), List.mem_of_getElem? (i := 1625) (by decide +kernel)⟩
theorem lw_p65 : lw_okq (⟨"EclipsesKeptModel", "siegePleads", "(II)I"⟩, 63) := ⟨⟨by decide +kernel, by decide +kernel⟩, List.mem_of_getElem? (i := 1130) (by decide +kernel), List.mem_of_getElem? (i := 1628) (by decide +kernel), List.mem_of_getElem? (i := 1629) (by decide +kernel)⟩
theorem lw_p66 : lw_okq (⟨"EclipsesKeptModel", "needPleads", "(II)I"⟩, 63) := ⟨⟨by decide +kernel, by decide +kernel⟩, List.mem_of_getElem? (i := 1130) (by decide +kernel), List.mem_of_getElem? (i := 1632) (by decide +kernel), List.mem_of_getElem? (i := 1633) (by decide +kernel)⟩
theorem lw_p67 : lw_okq (⟨"EclipsesKeptModel", "tellsAct", "(II)I"⟩, 63) := ⟨⟨by decide +kernel, by decide +kernel⟩, List.mem_of_getElem? (i := 1130) (by decide +kernel), List.mem_of_getElem? (i := 1636) (by decide +kernel), List.mem_of_getElem? (i := 1637) (by decide +kernel)⟩
theorem lw_p68 : lw_okq (⟨"EclipsesKeptModel", "needTells", "(II)I"⟩, 63) := ⟨⟨by decide +kernel, by decide +kernel⟩, List.mem_of_getElem? (i := 1130) (by decide +kernel), List.mem_of_getElem? (i := 1640) (by decide +kernel), List.mem_of_getElem? (i := 1641) (by decide +kernel)⟩
theorem lw_p69 : lw_okq (⟨"EclipsesKeptModel", "narrow", "(IJ)J"⟩, 63) := ⟨⟨by decide +kernel, by decide +kernel⟩, List.mem_of_getElem? (i := 1130) (by decide +kernel), List.mem_of_getElem? (i := 1664) (by decide +kernel), List.mem_of_getElem? (i := 1665) (by decide +kernel)⟩
def lw_privs_5 : List (MethodName × Nat) := [(⟨"EclipsesKeptModel", "pleadsAct", "(II)I"⟩, 63), (⟨"EclipsesKeptModel", "siegePleads", "(II)I"⟩, 63), (⟨"EclipsesKeptModel", "needPleads", "(II)I"⟩, 63), (⟨"EclipsesKeptModel", "tellsAct", "(II)I"⟩, 63), (⟨"EclipsesKeptModel", "needTells", "(II)I"⟩, 63), (⟨"EclipsesKeptModel", "narrow", "(IJ)J"⟩, 63)]
theorem lw_r5 : ∀ q ∈ lw_privs_5, lw_okq q := List.forall_mem_cons.mpr ⟨lw_p64, List.forall_mem_cons.mpr ⟨lw_p65, List.forall_mem_cons.mpr ⟨lw_p66, List.forall_mem_cons.mpr ⟨lw_p67, List.forall_mem_cons.mpr ⟨lw_p68, List.forall_mem_cons.mpr ⟨lw_p69, fun _ h => absurd h List.not_mem_nil⟩⟩⟩⟩⟩⟩
def lw_privs : List (MethodName × Nat) := lw_privs_1 ++ (lw_privs_2 ++ (lw_privs_3 ++ (lw_privs_4 ++ (lw_privs_5))))
def lw_tbl : List Cond := k2_sels lw_privs ++ tables_1
theorem lw_privs_ok : ∀ q ∈ lw_privs, lw_okq q := by
  show ∀ q ∈ lw_privs_1 ++ (lw_privs_2 ++ (lw_privs_3 ++ (lw_privs_4 ++ (lw_privs_5)))), lw_okq q
  exact List.forall_mem_append.mpr ⟨lw_r1, List.forall_mem_append.mpr ⟨lw_r2, List.forall_mem_append.mpr ⟨lw_r3, List.forall_mem_append.mpr ⟨lw_r4, lw_r5⟩⟩⟩⟩
-- ===== end of PART A; then your names; then what follows =====
end
section
/-! ===== BEGIN printed: names, fields, word lists, decode rows ===== -/
def RX0 : String := "EclipsesKept$Archive"
def TX0 : u_T := fun k => match k with
  | 0 => ("EclipsesKept$Archive", "text", "Ljava/lang/String;", true)
  | 1 => ("EclipsesKept$Archive", "one", "Z", true)
  | 2 => ("EclipsesKept$Archive", "at", "I", false)
  | 3 => ("EclipsesKept$Archive", "sorts", "[I", true)
  | 4 => ("EclipsesKept$Archive", "numbers", "[I", true)
  | 5 => ("EclipsesKept$Archive", "starts", "[I", true)
  | 6 => ("EclipsesKept$Archive", "codes", "[I", true)
  | 7 => ("EclipsesKept$Archive", "clauses", "I", false)
  | 8 => ("EclipsesKept$Archive", "codeCount", "I", false)
  | _ => ("EclipsesKept$Archive", "keep", "I", false)
def tyX0 : Nat → FieldType := fun k => match k with
  | 0 => .object "java/lang/String"
  | 1 => .boolean
  | 2 => .int
  | 3 => .array .int
  | 4 => .array .int
  | 5 => .array .int
  | 6 => .array .int
  | 7 => .int
  | 8 => .int
  | _ => .int
abbrev wsX00 : List Cond := u_ws RX0 TX0 10
theorem nmX0 : ∀ a, a < 10 → ∀ b, b < 10 → a ≠ b → (TX0 a).2.1 ≠ (TX0 b).2.1 := by decide +kernel
theorem tyX0_ok : ∀ k, k < 10 → parseFieldDescriptor (TX0 k).2.2.1 = some (tyX0 k) := by decide +kernel
abbrev cX0_init : ByteArray := prog_2_method_1_code
def yX0_init : MethodName := ⟨RX0, "<init>", "(Ljava/lang/String;)V"⟩
abbrev cX0_isOne : ByteArray := prog_2_method_2_code
def yX0_isOne : MethodName := ⟨RX0, "isOne", "()Z"⟩
abbrev cX0_place : ByteArray := prog_2_method_3_code
def yX0_place : MethodName := ⟨RX0, "place", "()I"⟩
abbrev cX0_takesClauses : ByteArray := prog_2_method_4_code
def yX0_takesClauses : MethodName := ⟨RX0, "takesClauses", "()Z"⟩
abbrev cX0_takesClause : ByteArray := prog_2_method_5_code
def yX0_takesClause : MethodName := ⟨RX0, "takesClause", "()Z"⟩
abbrev cX0_takesEither : ByteArray := prog_2_method_6_code
def yX0_takesEither : MethodName := ⟨RX0, "takesEither", "(I)Z"⟩
abbrev cX0_takesBoth : ByteArray := prog_2_method_7_code
def yX0_takesBoth : MethodName := ⟨RX0, "takesBoth", "(I)Z"⟩
abbrev cX0_takesPart : ByteArray := prog_2_method_8_code
def yX0_takesPart : MethodName := ⟨RX0, "takesPart", "(I)Z"⟩
abbrev cX0_takesTest : ByteArray := prog_2_method_9_code
def yX0_takesTest : MethodName := ⟨RX0, "takesTest", "()Z"⟩
abbrev cX0_takesNumber : ByteArray := prog_2_method_10_code
def yX0_takesNumber : MethodName := ⟨RX0, "takesNumber", "()I"⟩
abbrev cX0_takesWord : ByteArray := prog_2_method_11_code
def yX0_takesWord : MethodName := ⟨RX0, "takesWord", "(Ljava/lang/String;)Z"⟩
abbrev cX0_takesOneOf : ByteArray := prog_2_method_12_code
def yX0_takesOneOf : MethodName := ⟨RX0, "takesOneOf", "(Ljava/lang/String;)C"⟩
abbrev cX0_takes : ByteArray := prog_2_method_13_code
def yX0_takes : MethodName := ⟨RX0, "takes", "(C)Z"⟩
abbrev cX0_sees : ByteArray := prog_2_method_14_code
def yX0_sees : MethodName := ⟨RX0, "sees", "(C)Z"⟩
abbrev cX0_put : ByteArray := prog_2_method_15_code
def yX0_put : MethodName := ⟨RX0, "put", "(I)V"⟩
abbrev cX0_baseOf : ByteArray := prog_2_method_16_code
def yX0_baseOf : MethodName := ⟨RX0, "baseOf", "(IIIII)I"⟩
abbrev cX0_holdsFor : ByteArray := prog_2_method_17_code
def yX0_holdsFor : MethodName := ⟨RX0, "holdsFor", "(IIIIII)Z"⟩
abbrev cX0_passes : ByteArray := prog_2_method_18_code
def yX0_passes : MethodName := ⟨RX0, "passes", "(IIIIII)Z"⟩
def RX1 : String := "EclipsesKept$Bird"
def TX1 : u_T := fun k => match k with
  | 0 => ("EclipsesKept$Need", "kind", "I", true)
  | 1 => ("EclipsesKept$Need", "number", "I", true)
  | 2 => ("EclipsesKept$Need", "v", "I", true)
  | _ => ("EclipsesKept$Need", "bodies", "[I", true)
def tyX1 : Nat → FieldType := fun k => match k with
  | 0 => .int
  | 1 => .int
  | 2 => .int
  | _ => .array .int
abbrev wsX10 : List Cond := u_ws RX1 TX1 4
theorem nmX1 : ∀ a, a < 4 → ∀ b, b < 4 → a ≠ b → (TX1 a).2.1 ≠ (TX1 b).2.1 := by decide +kernel
theorem tyX1_ok : ∀ k, k < 4 → parseFieldDescriptor (TX1 k).2.2.1 = some (tyX1 k) := by decide +kernel
abbrev cX1_init : ByteArray := prog_3_method_1_code
def yX1_init : MethodName := ⟨RX1, "<init>", "(III[I)V"⟩
abbrev cX1_gives : ByteArray := prog_3_method_2_code
def yX1_gives : MethodName := ⟨RX1, "gives", "(IIIII)I"⟩
abbrev cX1_tells : ByteArray := prog_3_method_3_code
def yX1_tells : MethodName := ⟨RX1, "tells", "(I)I"⟩
def RX2 : String := "EclipsesKept$Child"
def TX2 : u_T := fun k => match k with
  | 0 => ("EclipsesKept$Need", "kind", "I", true)
  | 1 => ("EclipsesKept$Need", "number", "I", true)
  | 2 => ("EclipsesKept$Need", "v", "I", true)
  | _ => ("EclipsesKept$Need", "bodies", "[I", true)
def tyX2 : Nat → FieldType := fun k => match k with
  | 0 => .int
  | 1 => .int
  | 2 => .int
  | _ => .array .int
abbrev wsX20 : List Cond := u_ws RX2 TX2 4
theorem nmX2 : ∀ a, a < 4 → ∀ b, b < 4 → a ≠ b → (TX2 a).2.1 ≠ (TX2 b).2.1 := by decide +kernel
theorem tyX2_ok : ∀ k, k < 4 → parseFieldDescriptor (TX2 k).2.2.1 = some (tyX2 k) := by decide +kernel
abbrev cX2_init : ByteArray := prog_4_method_1_code
def yX2_init : MethodName := ⟨RX2, "<init>", "(III[I)V"⟩
abbrev cX2_gives : ByteArray := prog_4_method_2_code
def yX2_gives : MethodName := ⟨RX2, "gives", "(IIIII)I"⟩
abbrev cX2_darkens : ByteArray := prog_4_method_3_code
def yX2_darkens : MethodName := ⟨RX2, "darkens", "(I)I"⟩
abbrev cX2_pleads : ByteArray := prog_4_method_4_code
def yX2_pleads : MethodName := ⟨RX2, "pleads", "(I)I"⟩
def RX3 : String := "EclipsesKept$Crown"
def TX3 : u_T := fun k => match k with
  | 0 => ("EclipsesKept$Need", "kind", "I", true)
  | 1 => ("EclipsesKept$Need", "number", "I", true)
  | 2 => ("EclipsesKept$Need", "v", "I", true)
  | _ => ("EclipsesKept$Need", "bodies", "[I", true)
def tyX3 : Nat → FieldType := fun k => match k with
  | 0 => .int
  | 1 => .int
  | 2 => .int
  | _ => .array .int
abbrev wsX30 : List Cond := u_ws RX3 TX3 4
theorem nmX3 : ∀ a, a < 4 → ∀ b, b < 4 → a ≠ b → (TX3 a).2.1 ≠ (TX3 b).2.1 := by decide +kernel
theorem tyX3_ok : ∀ k, k < 4 → parseFieldDescriptor (TX3 k).2.2.1 = some (tyX3 k) := by decide +kernel
abbrev cX3_init : ByteArray := prog_5_method_1_code
def yX3_init : MethodName := ⟨RX3, "<init>", "(III[I)V"⟩
abbrev cX3_gives : ByteArray := prog_5_method_2_code
def yX3_gives : MethodName := ⟨RX3, "gives", "(IIIII)I"⟩
abbrev cX3_darkens : ByteArray := prog_5_method_3_code
def yX3_darkens : MethodName := ⟨RX3, "darkens", "(I)I"⟩
def RX4 : String := "EclipsesKept$Need"
def TX4 : u_T := fun k => match k with
  | 0 => ("EclipsesKept$Need", "kind", "I", true)
  | 1 => ("EclipsesKept$Need", "number", "I", true)
  | 2 => ("EclipsesKept$Need", "v", "I", true)
  | _ => ("EclipsesKept$Need", "bodies", "[I", true)
def tyX4 : Nat → FieldType := fun k => match k with
  | 0 => .int
  | 1 => .int
  | 2 => .int
  | _ => .array .int
abbrev wsX40 : List Cond := u_ws RX4 TX4 4
theorem nmX4 : ∀ a, a < 4 → ∀ b, b < 4 → a ≠ b → (TX4 a).2.1 ≠ (TX4 b).2.1 := by decide +kernel
theorem tyX4_ok : ∀ k, k < 4 → parseFieldDescriptor (TX4 k).2.2.1 = some (tyX4 k) := by decide +kernel
abbrev cX4_init : ByteArray := prog_6_method_1_code
def yX4_init : MethodName := ⟨RX4, "<init>", "(III[I)V"⟩
abbrev cX4_gives : ByteArray := prog_6_method_2_code
def yX4_gives : MethodName := ⟨RX4, "gives", "(IIIII)I"⟩
abbrev cX4_began : ByteArray := prog_6_method_3_code
def yX4_began : MethodName := ⟨RX4, "began", "(I)V"⟩
abbrev cX4_darkens : ByteArray := prog_6_method_4_code
def yX4_darkens : MethodName := ⟨RX4, "darkens", "(I)I"⟩
abbrev cX4_pleads : ByteArray := prog_6_method_5_code
def yX4_pleads : MethodName := ⟨RX4, "pleads", "(I)I"⟩
abbrev cX4_tells : ByteArray := prog_6_method_6_code
def yX4_tells : MethodName := ⟨RX4, "tells", "(I)I"⟩
def RX5 : String := "EclipsesKept$Photo"
def TX5 : u_T := fun k => match k with
  | 0 => ("EclipsesKept$Need", "kind", "I", true)
  | 1 => ("EclipsesKept$Need", "number", "I", true)
  | 2 => ("EclipsesKept$Need", "v", "I", true)
  | _ => ("EclipsesKept$Need", "bodies", "[I", true)
def tyX5 : Nat → FieldType := fun k => match k with
  | 0 => .int
  | 1 => .int
  | 2 => .int
  | _ => .array .int
abbrev wsX50 : List Cond := u_ws RX5 TX5 4
theorem nmX5 : ∀ a, a < 4 → ∀ b, b < 4 → a ≠ b → (TX5 a).2.1 ≠ (TX5 b).2.1 := by decide +kernel
theorem tyX5_ok : ∀ k, k < 4 → parseFieldDescriptor (TX5 k).2.2.1 = some (tyX5 k) := by decide +kernel
abbrev cX5_init : ByteArray := prog_7_method_1_code
def yX5_init : MethodName := ⟨RX5, "<init>", "(III[I)V"⟩
abbrev cX5_gives : ByteArray := prog_7_method_2_code
def yX5_gives : MethodName := ⟨RX5, "gives", "(IIIII)I"⟩
abbrev cX5_tells : ByteArray := prog_7_method_3_code
def yX5_tells : MethodName := ⟨RX5, "tells", "(I)I"⟩
def RX6 : String := "EclipsesKept$Siege"
def TX6 : u_T := fun k => match k with
  | 0 => ("EclipsesKept$Need", "kind", "I", true)
  | 1 => ("EclipsesKept$Need", "number", "I", true)
  | 2 => ("EclipsesKept$Need", "v", "I", true)
  | _ => ("EclipsesKept$Need", "bodies", "[I", true)
def tyX6 : Nat → FieldType := fun k => match k with
  | 0 => .int
  | 1 => .int
  | 2 => .int
  | _ => .array .int
abbrev wsX60 : List Cond := u_ws RX6 TX6 4
theorem nmX6 : ∀ a, a < 4 → ∀ b, b < 4 → a ≠ b → (TX6 a).2.1 ≠ (TX6 b).2.1 := by decide +kernel
theorem tyX6_ok : ∀ k, k < 4 → parseFieldDescriptor (TX6 k).2.2.1 = some (tyX6 k) := by decide +kernel
abbrev cX6_init : ByteArray := prog_8_method_1_code
def yX6_init : MethodName := ⟨RX6, "<init>", "(III[I)V"⟩
abbrev cX6_gives : ByteArray := prog_8_method_2_code
def yX6_gives : MethodName := ⟨RX6, "gives", "(IIIII)I"⟩
abbrev cX6_pleads : ByteArray := prog_8_method_3_code
def yX6_pleads : MethodName := ⟨RX6, "pleads", "(I)I"⟩
def RX7 : String := "EclipsesKept$State"
def TX7 : u_T := fun k => match k with
  | 0 => ("EclipsesKept$State", "needs", "[LEclipsesKept$Need;", true)
  | 1 => ("EclipsesKept$State", "served", "[I", true)
  | 2 => ("EclipsesKept$State", "rows", "[I", true)
  | 3 => ("EclipsesKept$State", "century", "[I", true)
  | 4 => ("EclipsesKept$State", "seenNeed", "[I", true)
  | 5 => ("EclipsesKept$State", "seenWorth", "[I", true)
  | 6 => ("EclipsesKept$State", "seenAhead", "[I", true)
  | 7 => ("EclipsesKept$State", "bookNeed", "[I", true)
  | 8 => ("EclipsesKept$State", "bookServed", "[I", true)
  | 9 => ("EclipsesKept$State", "needCount", "I", false)
  | 10 => ("EclipsesKept$State", "centuryCount", "I", false)
  | 11 => ("EclipsesKept$State", "seenCount", "I", false)
  | 12 => ("EclipsesKept$State", "bookCount", "I", false)
  | 13 => ("EclipsesKept$State", "darks", "I", false)
  | 14 => ("EclipsesKept$State", "glory", "I", false)
  | 15 => ("EclipsesKept$State", "year", "I", false)
  | _ => ("EclipsesKept$State", "archive", "LEclipsesKept$Archive;", false)
def tyX7 : Nat → FieldType := fun k => match k with
  | 0 => .array (.object "EclipsesKept$Need")
  | 1 => .array .int
  | 2 => .array .int
  | 3 => .array .int
  | 4 => .array .int
  | 5 => .array .int
  | 6 => .array .int
  | 7 => .array .int
  | 8 => .array .int
  | 9 => .int
  | 10 => .int
  | 11 => .int
  | 12 => .int
  | 13 => .int
  | 14 => .int
  | 15 => .int
  | _ => .object "EclipsesKept$Archive"
abbrev wsX70 : List Cond := u_ws RX7 TX7 17
theorem nmX7 : ∀ a, a < 17 → ∀ b, b < 17 → a ≠ b → (TX7 a).2.1 ≠ (TX7 b).2.1 := by decide +kernel
theorem tyX7_ok : ∀ k, k < 17 → parseFieldDescriptor (TX7 k).2.2.1 = some (tyX7 k) := by decide +kernel
abbrev cX7_init : ByteArray := prog_9_method_1_code
def yX7_init : MethodName := ⟨RX7, "<init>", "()V"⟩
abbrev cX7_become : ByteArray := prog_9_method_2_code
def yX7_become : MethodName := ⟨RX7, "become", "(LEclipsesKept$State;)V"⟩
abbrev cX7_has : ByteArray := prog_9_method_3_code
def yX7_has : MethodName := ⟨RX7, "has", "(I)Z"⟩
abbrev cX7_needOf : ByteArray := prog_9_method_4_code
def yX7_needOf : MethodName := ⟨RX7, "needOf", "(I)LEclipsesKept$Need;"⟩
abbrev cX7_join : ByteArray := prog_9_method_5_code
def yX7_join : MethodName := ⟨RX7, "join", "(LEclipsesKept$Need;)I"⟩
abbrev cX7_keepCost : ByteArray := prog_9_method_6_code
def yX7_keepCost : MethodName := ⟨RX7, "keepCost", "()I"⟩
abbrev cX7_endYear : ByteArray := prog_9_method_7_code
def yX7_endYear : MethodName := ⟨RX7, "endYear", "(I)I"⟩
abbrev cX7_worthOf : ByteArray := prog_9_method_8_code
def yX7_worthOf : MethodName := ⟨RX7, "worthOf", "(III)I"⟩
abbrev cX7_worthBy : ByteArray := prog_9_method_9_code
def yX7_worthBy : MethodName := ⟨RX7, "worthBy", "(IIII)I"⟩
abbrev cX7_isAllSeen : ByteArray := prog_9_method_10_code
def yX7_isAllSeen : MethodName := ⟨RX7, "isAllSeen", "(III)Z"⟩
def RX8 : String := "EclipsesKept$Tape"
def TX8 : u_T := fun k => match k with
  | 0 => ("EclipsesKept$Tape", "items", "[J", true)
  | 1 => ("EclipsesKept$Tape", "sort", "I", false)
  | _ => ("EclipsesKept$Tape", "length", "I", false)
def tyX8 : Nat → FieldType := fun k => match k with
  | 0 => .array .long
  | 1 => .int
  | _ => .int
abbrev wsX80 : List Cond := u_ws RX8 TX8 3
theorem nmX8 : ∀ a, a < 3 → ∀ b, b < 3 → a ≠ b → (TX8 a).2.1 ≠ (TX8 b).2.1 := by decide +kernel
theorem tyX8_ok : ∀ k, k < 3 → parseFieldDescriptor (TX8 k).2.2.1 = some (tyX8 k) := by decide +kernel
abbrev cX8_init : ByteArray := prog_10_method_1_code
def yX8_init : MethodName := ⟨RX8, "<init>", "()V"⟩
abbrev cX8_holds : ByteArray := prog_10_method_2_code
def yX8_holds : MethodName := ⟨RX8, "holds", "()Z"⟩
abbrev cX8_become : ByteArray := prog_10_method_3_code
def yX8_become : MethodName := ⟨RX8, "become", "(II)V"⟩
abbrev cX8_hasPlace : ByteArray := prog_10_method_4_code
def yX8_hasPlace : MethodName := ⟨RX8, "hasPlace", "(I)Z"⟩
abbrev cX8_hasRun : ByteArray := prog_10_method_5_code
def yX8_hasRun : MethodName := ⟨RX8, "hasRun", "(II)Z"⟩
abbrev cX8_narrowed : ByteArray := prog_10_method_6_code
def yX8_narrowed : MethodName := ⟨RX8, "narrowed", "(J)J"⟩
def RX9 : String := "EclipsesKept$Told"
def TX9 : u_T := fun k => match k with
  | 0 => ("EclipsesKept$Need", "kind", "I", true)
  | 1 => ("EclipsesKept$Need", "number", "I", true)
  | 2 => ("EclipsesKept$Need", "v", "I", true)
  | _ => ("EclipsesKept$Need", "bodies", "[I", true)
def tyX9 : Nat → FieldType := fun k => match k with
  | 0 => .int
  | 1 => .int
  | 2 => .int
  | _ => .array .int
abbrev wsX90 : List Cond := u_ws RX9 TX9 4
theorem nmX9 : ∀ a, a < 4 → ∀ b, b < 4 → a ≠ b → (TX9 a).2.1 ≠ (TX9 b).2.1 := by decide +kernel
theorem tyX9_ok : ∀ k, k < 4 → parseFieldDescriptor (TX9 k).2.2.1 = some (tyX9 k) := by decide +kernel
abbrev cX9_init : ByteArray := prog_11_method_1_code
def yX9_init : MethodName := ⟨RX9, "<init>", "(III[I)V"⟩
abbrev cX9_gives : ByteArray := prog_11_method_2_code
def yX9_gives : MethodName := ⟨RX9, "gives", "(IIIII)I"⟩
abbrev cX9_pleads : ByteArray := prog_11_method_3_code
def yX9_pleads : MethodName := ⟨RX9, "pleads", "(I)I"⟩
abbrev cX9_darkens : ByteArray := prog_11_method_4_code
def yX9_darkens : MethodName := ⟨RX9, "darkens", "(I)I"⟩
def RX10 : String := "EclipsesKept$Years"
def TX10 : u_T := fun k => match k with
  | 0 => ("EclipsesKept$Years", "worths", "[I", true)
  | 1 => ("EclipsesKept$Years", "ways", "[J", true)
  | 2 => ("EclipsesKept$Years", "totals", "[[J", true)
  | 3 => ("EclipsesKept$Years", "spentWays", "[[J", true)
  | 4 => ("EclipsesKept$Years", "needs", "I", false)
  | 5 => ("EclipsesKept$Years", "mostDarks", "I", false)
  | 6 => ("EclipsesKept$Years", "keep", "I", false)
  | _ => ("EclipsesKept$Years", "ahead", "I", false)
def tyX10 : Nat → FieldType := fun k => match k with
  | 0 => .array .int
  | 1 => .array .long
  | 2 => .array (.array .long)
  | 3 => .array (.array .long)
  | 4 => .int
  | 5 => .int
  | 6 => .int
  | _ => .int
abbrev wsX100 : List Cond := u_ws RX10 TX10 8
theorem nmX10 : ∀ a, a < 8 → ∀ b, b < 8 → a ≠ b → (TX10 a).2.1 ≠ (TX10 b).2.1 := by decide +kernel
theorem tyX10_ok : ∀ k, k < 8 → parseFieldDescriptor (TX10 k).2.2.1 = some (tyX10 k) := by decide +kernel
abbrev cX10_init : ByteArray := prog_12_method_1_code
def yX10_init : MethodName := ⟨RX10, "<init>", "()V"⟩
abbrev cX10_look : ByteArray := prog_12_method_2_code
def yX10_look : MethodName := ⟨RX10, "look", "(LEclipsesKept$State;II)V"⟩
abbrev cX10_place : ByteArray := prog_12_method_3_code
def yX10_place : MethodName := ⟨RX10, "place", "(III)I"⟩
abbrev cX10_ask : ByteArray := prog_12_method_4_code
def yX10_ask : MethodName := ⟨RX10, "ask", "(LEclipsesKept$State;IIII)V"⟩
abbrev cX10_weigh : ByteArray := prog_12_method_5_code
def yX10_weigh : MethodName := ⟨RX10, "weigh", "(III)V"⟩
abbrev cX10_weighYear : ByteArray := prog_12_method_6_code
def yX10_weighYear : MethodName := ⟨RX10, "weighYear", "(IIII)J"⟩
abbrev cX10_serves : ByteArray := prog_12_method_7_code
def yX10_serves : MethodName := ⟨RX10, "serves", "(IIIII)Z"⟩
abbrev cX10_ifServed : ByteArray := prog_12_method_8_code
def yX10_ifServed : MethodName := ⟨RX10, "ifServed", "(III)J"⟩
abbrev cX10_ifSpared : ByteArray := prog_12_method_9_code
def yX10_ifSpared : MethodName := ⟨RX10, "ifSpared", "(II)J"⟩
abbrev cX10_bestSet : ByteArray := prog_12_method_10_code
def yX10_bestSet : MethodName := ⟨RX10, "bestSet", "(II)I"⟩
abbrev cX10_waysToSpend : ByteArray := prog_12_method_11_code
def yX10_waysToSpend : MethodName := ⟨RX10, "waysToSpend", "(II)J"⟩
abbrev cX10_leastWise : ByteArray := prog_12_method_12_code
def yX10_leastWise : MethodName := ⟨RX10, "leastWise", "(II)J"⟩
abbrev cX10_bestPlan : ByteArray := prog_12_method_13_code
def yX10_bestPlan : MethodName := ⟨RX10, "bestPlan", "(LEclipsesKept$State;)I"⟩
abbrev cX10_gain : ByteArray := prog_12_method_14_code
def yX10_gain : MethodName := ⟨RX10, "gain", "(LEclipsesKept$State;I)I"⟩
def RX11 : String := "EclipsesKept"
def TX11 : u_T := fun k => match k with
  | 0 => ("EclipsesKept", "state", "LEclipsesKept$State;", true)
  | 1 => ("EclipsesKept", "kept", "LEclipsesKept$State;", true)
  | 2 => ("EclipsesKept", "years", "LEclipsesKept$Years;", true)
  | 3 => ("EclipsesKept", "tapes", "[LEclipsesKept$Tape;", true)
  | 4 => ("EclipsesKept", "text", "Ljava/lang/StringBuilder;", true)
  | 5 => ("EclipsesKept", "bodies", "[I", true)
  | 6 => ("EclipsesKept", "archives", "I", false)
  | _ => ("EclipsesKept", "imaged", "Z", false)
def tyX11 : Nat → FieldType := fun k => match k with
  | 0 => .object "EclipsesKept$State"
  | 1 => .object "EclipsesKept$State"
  | 2 => .object "EclipsesKept$Years"
  | 3 => .array (.object "EclipsesKept$Tape")
  | 4 => .object "java/lang/StringBuilder"
  | 5 => .array .int
  | 6 => .int
  | _ => .boolean
abbrev wsX110 : List Cond := u_ws RX11 TX11 8
theorem nmX11 : ∀ a, a < 8 → ∀ b, b < 8 → a ≠ b → (TX11 a).2.1 ≠ (TX11 b).2.1 := by decide +kernel
theorem tyX11_ok : ∀ k, k < 8 → parseFieldDescriptor (TX11 k).2.2.1 = some (tyX11 k) := by decide +kernel
abbrev cX11_init : ByteArray := prog_1_method_1_code
def yX11_init : MethodName := ⟨RX11, "<init>", "()V"⟩
abbrev cX11_need : ByteArray := prog_1_method_2_code
def yX11_need : MethodName := ⟨RX11, "need", "(II)I"⟩
abbrev cX11_of : ByteArray := prog_1_method_3_code
def yX11_of : MethodName := ⟨RX11, "of", "(II)I"⟩
abbrev cX11_worth : ByteArray := prog_1_method_4_code
def yX11_worth : MethodName := ⟨RX11, "worth", "(III)I"⟩
abbrev cX11_serve : ByteArray := prog_1_method_5_code
def yX11_serve : MethodName := ⟨RX11, "serve", "(I)I"⟩
abbrev cX11_spare : ByteArray := prog_1_method_6_code
def yX11_spare : MethodName := ⟨RX11, "spare", "(I)I"⟩
abbrev cX11_darks : ByteArray := prog_1_method_7_code
def yX11_darks : MethodName := ⟨RX11, "darks", "(I)I"⟩
abbrev cX11_row : ByteArray := prog_1_method_8_code
def yX11_row : MethodName := ⟨RX11, "row", "(III)I"⟩
abbrev cX11_feed : ByteArray := prog_1_method_9_code
def yX11_feed : MethodName := ⟨RX11, "feed", "(I)I"⟩
abbrev cX11_archive : ByteArray := prog_1_method_10_code
def yX11_archive : MethodName := ⟨RX11, "archive", "()I"⟩
abbrev cX11_told : ByteArray := prog_1_method_11_code
def yX11_told : MethodName := ⟨RX11, "told", "(I)I"⟩
abbrev cX11_mean : ByteArray := prog_1_method_12_code
def yX11_mean : MethodName := ⟨RX11, "mean", "(II)J"⟩
abbrev cX11_wise : ByteArray := prog_1_method_13_code
def yX11_wise : MethodName := ⟨RX11, "wise", "(II)I"⟩
abbrev cX11_price : ByteArray := prog_1_method_14_code
def yX11_price : MethodName := ⟨RX11, "price", "(II)J"⟩
abbrev cX11_greedy : ByteArray := prog_1_method_15_code
def yX11_greedy : MethodName := ⟨RX11, "greedy", "(II)J"⟩
abbrev cX11_only : ByteArray := prog_1_method_16_code
def yX11_only : MethodName := ⟨RX11, "only", "(III)J"⟩
abbrev cX11_chosen : ByteArray := prog_1_method_17_code
def yX11_chosen : MethodName := ⟨RX11, "chosen", "(I)I"⟩
abbrev cX11_spent : ByteArray := prog_1_method_18_code
def yX11_spent : MethodName := ⟨RX11, "spent", "(II)J"⟩
abbrev cX11_threshold : ByteArray := prog_1_method_19_code
def yX11_threshold : MethodName := ⟨RX11, "threshold", "(I)I"⟩
abbrev cX11_century : ByteArray := prog_1_method_20_code
def yX11_century : MethodName := ⟨RX11, "century", "(I)I"⟩
abbrev cX11_plan : ByteArray := prog_1_method_21_code
def yX11_plan : MethodName := ⟨RX11, "plan", "(I)I"⟩
abbrev cX11_ends : ByteArray := prog_1_method_22_code
def yX11_ends : MethodName := ⟨RX11, "ends", "(I)I"⟩
abbrev cX11_see : ByteArray := prog_1_method_23_code
def yX11_see : MethodName := ⟨RX11, "see", "(III)I"⟩
abbrev cX11_can : ByteArray := prog_1_method_24_code
def yX11_can : MethodName := ⟨RX11, "can", "(II)I"⟩
abbrev cX11_darked : ByteArray := prog_1_method_25_code
def yX11_darked : MethodName := ⟨RX11, "darked", "(I)I"⟩
abbrev cX11_book : ByteArray := prog_1_method_26_code
def yX11_book : MethodName := ⟨RX11, "book", "(II)I"⟩
abbrev cX11_looked : ByteArray := prog_1_method_27_code
def yX11_looked : MethodName := ⟨RX11, "looked", "()I"⟩
abbrev cX11_judge : ByteArray := prog_1_method_28_code
def yX11_judge : MethodName := ⟨RX11, "judge", "(II)I"⟩
abbrev cX11_image : ByteArray := prog_1_method_29_code
def yX11_image : MethodName := ⟨RX11, "image", "()I"⟩
abbrev cX11_undo : ByteArray := prog_1_method_30_code
def yX11_undo : MethodName := ⟨RX11, "undo", "()I"⟩
abbrev cX11_act : ByteArray := prog_1_method_31_code
def yX11_act : MethodName := ⟨RX11, "act", "(III)I"⟩
abbrev cX11_trace : ByteArray := prog_1_method_32_code
def yX11_trace : MethodName := ⟨RX11, "trace", "(I)I"⟩
abbrev cX11_taken : ByteArray := prog_1_method_33_code
def yX11_taken : MethodName := ⟨RX11, "taken", "(II)I"⟩
abbrev cX11_count : ByteArray := prog_1_method_34_code
def yX11_count : MethodName := ⟨RX11, "count", "(I)I"⟩
abbrev cX11_tape : ByteArray := prog_1_method_35_code
def yX11_tape : MethodName := ⟨RX11, "tape", "(III)I"⟩
abbrev cX11_item : ByteArray := prog_1_method_36_code
def yX11_item : MethodName := ⟨RX11, "item", "(IIJ)I"⟩
abbrev cX11_read : ByteArray := prog_1_method_37_code
def yX11_read : MethodName := ⟨RX11, "read", "(II)J"⟩
abbrev cX11_shift : ByteArray := prog_1_method_38_code
def yX11_shift : MethodName := ⟨RX11, "shift", "(IIIII)I"⟩
abbrev cX11_isWithin : ByteArray := prog_1_method_39_code
def yX11_isWithin : MethodName := ⟨RX11, "isWithin", "(II)Z"⟩
abbrev cX11_isAsked : ByteArray := prog_1_method_40_code
def yX11_isAsked : MethodName := ⟨RX11, "isAsked", "(II)Z"⟩
abbrev cX11_onTheMean : ByteArray := prog_1_method_41_code
def yX11_onTheMean : MethodName := ⟨RX11, "onTheMean", "(IIII)J"⟩
abbrev cX11_tapeOf : ByteArray := prog_1_method_42_code
def yX11_tapeOf : MethodName := ⟨RX11, "tapeOf", "(I)LEclipsesKept$Tape;"⟩
abbrev cX11_made : ByteArray := prog_1_method_43_code
def yX11_made : MethodName := ⟨RX11, "made", "(III)LEclipsesKept$Need;"⟩
abbrev cX11_isOfKind : ByteArray := prog_1_method_44_code
def yX11_isOfKind : MethodName := ⟨RX11, "isOfKind", "(LEclipsesKept$Need;I)Z"⟩
abbrev cX11_fraction : ByteArray := prog_1_method_45_code
def yX11_fraction : MethodName := ⟨RX11, "fraction", "(JJI)J"⟩
abbrev cX11_commonOf : ByteArray := prog_1_method_46_code
def yX11_commonOf : MethodName := ⟨RX11, "commonOf", "(JJ)J"⟩
def RX12 : String := "EclipsesKeptModel"
def TX12 : u_T := fun k => match k with
  | 0 => ("EclipsesKeptModel", "needs", "I", false)
  | 1 => ("EclipsesKeptModel", "dark", "I", false)
  | 2 => ("EclipsesKeptModel", "glory", "I", false)
  | 3 => ("EclipsesKeptModel", "year", "I", false)
  | 4 => ("EclipsesKeptModel", "kind", "[I", true)
  | 5 => ("EclipsesKeptModel", "v", "[I", true)
  | 6 => ("EclipsesKeptModel", "served", "[I", true)
  | 7 => ("EclipsesKeptModel", "rows", "[I", true)
  | 8 => ("EclipsesKeptModel", "archives", "I", false)
  | 9 => ("EclipsesKeptModel", "the", "I", false)
  | 10 => ("EclipsesKeptModel", "fed", "I", false)
  | 11 => ("EclipsesKeptModel", "at", "I", false)
  | 12 => ("EclipsesKeptModel", "digits", "I", false)
  | 13 => ("EclipsesKeptModel", "text", "[I", true)
  | 14 => ("EclipsesKeptModel", "clauses", "[I", true)
  | 15 => ("EclipsesKeptModel", "word", "[I", true)
  | 16 => ("EclipsesKeptModel", "number", "[I", true)
  | 17 => ("EclipsesKeptModel", "from", "[I", true)
  | 18 => ("EclipsesKeptModel", "to", "[I", true)
  | 19 => ("EclipsesKeptModel", "sign", "[I", true)
  | 20 => ("EclipsesKeptModel", "waits", "[I", true)
  | 21 => ("EclipsesKeptModel", "signs", "I", false)
  | 22 => ("EclipsesKeptModel", "waiting", "I", false)
  | 23 => ("EclipsesKeptModel", "open", "I", false)
  | 24 => ("EclipsesKeptModel", "letters", "[I", true)
  | 25 => ("EclipsesKeptModel", "pile", "[Z", true)
  | 26 => ("EclipsesKeptModel", "gain", "[J", true)
  | 27 => ("EclipsesKeptModel", "chosenSet", "I", false)
  | 28 => ("EclipsesKeptModel", "out", "[J", true)
  | 29 => ("EclipsesKeptModel", "comes", "I", false)
  | 30 => ("EclipsesKeptModel", "comesNeed", "[I", true)
  | 31 => ("EclipsesKeptModel", "seen", "I", false)
  | 32 => ("EclipsesKeptModel", "books", "I", false)
  | 33 => ("EclipsesKeptModel", "seenNeed", "[I", true)
  | 34 => ("EclipsesKeptModel", "seenWorth", "[I", true)
  | 35 => ("EclipsesKeptModel", "seenWhen", "[I", true)
  | 36 => ("EclipsesKeptModel", "bookNeed", "[I", true)
  | 37 => ("EclipsesKeptModel", "bookServed", "[I", true)
  | 38 => ("EclipsesKeptModel", "hasImage", "Z", false)
  | 39 => ("EclipsesKeptModel", "imageThe", "I", false)
  | 40 => ("EclipsesKeptModel", "imageNeeds", "I", false)
  | 41 => ("EclipsesKeptModel", "imageDark", "I", false)
  | 42 => ("EclipsesKeptModel", "imageGlory", "I", false)
  | 43 => ("EclipsesKeptModel", "imageYear", "I", false)
  | 44 => ("EclipsesKeptModel", "imageComes", "I", false)
  | 45 => ("EclipsesKeptModel", "imageSeen", "I", false)
  | 46 => ("EclipsesKeptModel", "imageBooks", "I", false)
  | 47 => ("EclipsesKeptModel", "imageKind", "[I", true)
  | 48 => ("EclipsesKeptModel", "imageV", "[I", true)
  | 49 => ("EclipsesKeptModel", "imageServed", "[I", true)
  | 50 => ("EclipsesKeptModel", "imageRows", "[I", true)
  | 51 => ("EclipsesKeptModel", "imageComesNeed", "[I", true)
  | 52 => ("EclipsesKeptModel", "imageSeenNeed", "[I", true)
  | 53 => ("EclipsesKeptModel", "imageWorth", "[I", true)
  | 54 => ("EclipsesKeptModel", "imageWhen", "[I", true)
  | 55 => ("EclipsesKeptModel", "imageBookNeed", "[I", true)
  | 56 => ("EclipsesKeptModel", "imageBookServed", "[I", true)
  | 57 => ("EclipsesKeptModel", "ran", "I", false)
  | 58 => ("EclipsesKeptModel", "bodies", "[I", true)
  | 59 => ("EclipsesKeptModel", "sort", "[I", true)
  | 60 => ("EclipsesKeptModel", "length", "[I", true)
  | 61 => ("EclipsesKeptModel", "item", "[J", true)
  | _ => ("EclipsesKeptModel", "aside", "[J", true)
def tyX12 : Nat → FieldType := fun k => match k with
  | 0 => .int
  | 1 => .int
  | 2 => .int
  | 3 => .int
  | 4 => .array .int
  | 5 => .array .int
  | 6 => .array .int
  | 7 => .array .int
  | 8 => .int
  | 9 => .int
  | 10 => .int
  | 11 => .int
  | 12 => .int
  | 13 => .array .int
  | 14 => .array .int
  | 15 => .array .int
  | 16 => .array .int
  | 17 => .array .int
  | 18 => .array .int
  | 19 => .array .int
  | 20 => .array .int
  | 21 => .int
  | 22 => .int
  | 23 => .int
  | 24 => .array .int
  | 25 => .array .boolean
  | 26 => .array .long
  | 27 => .int
  | 28 => .array .long
  | 29 => .int
  | 30 => .array .int
  | 31 => .int
  | 32 => .int
  | 33 => .array .int
  | 34 => .array .int
  | 35 => .array .int
  | 36 => .array .int
  | 37 => .array .int
  | 38 => .boolean
  | 39 => .int
  | 40 => .int
  | 41 => .int
  | 42 => .int
  | 43 => .int
  | 44 => .int
  | 45 => .int
  | 46 => .int
  | 47 => .array .int
  | 48 => .array .int
  | 49 => .array .int
  | 50 => .array .int
  | 51 => .array .int
  | 52 => .array .int
  | 53 => .array .int
  | 54 => .array .int
  | 55 => .array .int
  | 56 => .array .int
  | 57 => .int
  | 58 => .array .int
  | 59 => .array .int
  | 60 => .array .int
  | 61 => .array .long
  | _ => .array .long
abbrev wsX120 : List Cond := u_ws RX12 TX12 63
theorem nmX12 : ∀ a, a < 63 → ∀ b, b < 63 → a ≠ b → (TX12 a).2.1 ≠ (TX12 b).2.1 := by decide +kernel
theorem tyX12_ok : ∀ k, k < 63 → parseFieldDescriptor (TX12 k).2.2.1 = some (tyX12 k) := by decide +kernel
abbrev cX12_init : ByteArray := prog_14_method_1_code
def yX12_init : MethodName := ⟨RX12, "<init>", "()V"⟩
abbrev cX12_in : ByteArray := prog_14_method_2_code
def yX12_in : MethodName := ⟨RX12, "in", "(III)Z"⟩
abbrev cX12_has : ByteArray := prog_14_method_3_code
def yX12_has : MethodName := ⟨RX12, "has", "(II)Z"⟩
abbrev cX12_bits : ByteArray := prog_14_method_4_code
def yX12_bits : MethodName := ⟨RX12, "bits", "(I)I"⟩
abbrev cX12_isNeed : ByteArray := prog_14_method_5_code
def yX12_isNeed : MethodName := ⟨RX12, "isNeed", "(I)Z"⟩
abbrev cX12_isDarks : ByteArray := prog_14_method_6_code
def yX12_isDarks : MethodName := ⟨RX12, "isDarks", "(I)Z"⟩
abbrev cX12_need : ByteArray := prog_14_method_7_code
def yX12_need : MethodName := ⟨RX12, "need", "(II)I"⟩
abbrev cX12_darks : ByteArray := prog_14_method_8_code
def yX12_darks : MethodName := ⟨RX12, "darks", "(I)I"⟩
abbrev cX12_row : ByteArray := prog_14_method_9_code
def yX12_row : MethodName := ⟨RX12, "row", "(III)I"⟩
abbrev cX12_feed : ByteArray := prog_14_method_10_code
def yX12_feed : MethodName := ⟨RX12, "feed", "(I)I"⟩
abbrev cX12_next : ByteArray := prog_14_method_11_code
def yX12_next : MethodName := ⟨RX12, "next", "()I"⟩
abbrev cX12_takes : ByteArray := prog_14_method_12_code
def yX12_takes : MethodName := ⟨RX12, "takes", "(I)Z"⟩
abbrev cX12_takesWord : ByteArray := prog_14_method_13_code
def yX12_takesWord : MethodName := ⟨RX12, "takesWord", "(II)Z"⟩
abbrev cX12_isDigit : ByteArray := prog_14_method_14_code
def yX12_isDigit : MethodName := ⟨RX12, "isDigit", "()Z"⟩
abbrev cX12_takesNumber : ByteArray := prog_14_method_15_code
def yX12_takesNumber : MethodName := ⟨RX12, "takesNumber", "()Z"⟩
abbrev cX12_emits : ByteArray := prog_14_method_16_code
def yX12_emits : MethodName := ⟨RX12, "emits", "(I)V"⟩
abbrev cX12_whole : ByteArray := prog_14_method_17_code
def yX12_whole : MethodName := ⟨RX12, "whole", "()V"⟩
abbrev cX12_settle : ByteArray := prog_14_method_18_code
def yX12_settle : MethodName := ⟨RX12, "settle", "(I)V"⟩
abbrev cX12_place : ByteArray := prog_14_method_19_code
def yX12_place : MethodName := ⟨RX12, "place", "(I)I"⟩
abbrev cX12_takesTest : ByteArray := prog_14_method_20_code
def yX12_takesTest : MethodName := ⟨RX12, "takesTest", "()Z"⟩
abbrev cX12_takesE : ByteArray := prog_14_method_21_code
def yX12_takesE : MethodName := ⟨RX12, "takesE", "(I)Z"⟩
abbrev cX12_takesHead : ByteArray := prog_14_method_22_code
def yX12_takesHead : MethodName := ⟨RX12, "takesHead", "(I)Z"⟩
abbrev cX12_takesClause : ByteArray := prog_14_method_23_code
def yX12_takesClause : MethodName := ⟨RX12, "takesClause", "(I)Z"⟩
abbrev cX12_goesText : ByteArray := prog_14_method_24_code
def yX12_goesText : MethodName := ⟨RX12, "goesText", "(I)Z"⟩
abbrev cX12_archive : ByteArray := prog_14_method_25_code
def yX12_archive : MethodName := ⟨RX12, "archive", "()I"⟩
abbrev cX12_begin : ByteArray := prog_14_method_26_code
def yX12_begin : MethodName := ⟨RX12, "begin", "()I"⟩
abbrev cX12_behind : ByteArray := prog_14_method_27_code
def yX12_behind : MethodName := ⟨RX12, "behind", "()I"⟩
abbrev cX12_keep : ByteArray := prog_14_method_28_code
def yX12_keep : MethodName := ⟨RX12, "keep", "()I"⟩
abbrev cX12_factOf : ByteArray := prog_14_method_29_code
def yX12_factOf : MethodName := ⟨RX12, "factOf", "(IIII)I"⟩
abbrev cX12_holds : ByteArray := prog_14_method_30_code
def yX12_holds : MethodName := ⟨RX12, "holds", "(IIII)Z"⟩
abbrev cX12_base : ByteArray := prog_14_method_31_code
def yX12_base : MethodName := ⟨RX12, "base", "(III)I"⟩
abbrev cX12_worthOf : ByteArray := prog_14_method_32_code
def yX12_worthOf : MethodName := ⟨RX12, "worthOf", "(III)I"⟩
abbrev cX12_of : ByteArray := prog_14_method_33_code
def yX12_of : MethodName := ⟨RX12, "of", "(II)I"⟩
abbrev cX12_worth : ByteArray := prog_14_method_34_code
def yX12_worth : MethodName := ⟨RX12, "worth", "(III)I"⟩
abbrev cX12_held : ByteArray := prog_14_method_35_code
def yX12_held : MethodName := ⟨RX12, "held", "(I)I"⟩
abbrev cX12_serve : ByteArray := prog_14_method_36_code
def yX12_serve : MethodName := ⟨RX12, "serve", "(I)I"⟩
abbrev cX12_spare : ByteArray := prog_14_method_37_code
def yX12_spare : MethodName := ⟨RX12, "spare", "(I)I"⟩
abbrev cX12_told : ByteArray := prog_14_method_38_code
def yX12_told : MethodName := ⟨RX12, "told", "(I)I"⟩
abbrev cX12_ways : ByteArray := prog_14_method_39_code
def yX12_ways : MethodName := ⟨RX12, "ways", "(I)J"⟩
abbrev cX12_ifServed : ByteArray := prog_14_method_40_code
def yX12_ifServed : MethodName := ⟨RX12, "ifServed", "(IIII)J"⟩
abbrev cX12_ifSpared : ByteArray := prog_14_method_41_code
def yX12_ifSpared : MethodName := ⟨RX12, "ifSpared", "(III)J"⟩
abbrev cX12_gainOf : ByteArray := prog_14_method_42_code
def yX12_gainOf : MethodName := ⟨RX12, "gainOf", "(IIIII)J"⟩
abbrev cX12_layGains : ByteArray := prog_14_method_43_code
def yX12_layGains : MethodName := ⟨RX12, "layGains", "(II)V"⟩
abbrev cX12_divisor : ByteArray := prog_14_method_44_code
def yX12_divisor : MethodName := ⟨RX12, "divisor", "(JJ)J"⟩
abbrev cX12_lowest : ByteArray := prog_14_method_45_code
def yX12_lowest : MethodName := ⟨RX12, "lowest", "(JJI)J"⟩
abbrev cX12_isYears : ByteArray := prog_14_method_46_code
def yX12_isYears : MethodName := ⟨RX12, "isYears", "(I)Z"⟩
abbrev cX12_isAsked : ByteArray := prog_14_method_47_code
def yX12_isAsked : MethodName := ⟨RX12, "isAsked", "(II)Z"⟩
abbrev cX12_mean : ByteArray := prog_14_method_48_code
def yX12_mean : MethodName := ⟨RX12, "mean", "(II)J"⟩
abbrev cX12_price : ByteArray := prog_14_method_49_code
def yX12_price : MethodName := ⟨RX12, "price", "(II)J"⟩
abbrev cX12_greedy : ByteArray := prog_14_method_50_code
def yX12_greedy : MethodName := ⟨RX12, "greedy", "(II)J"⟩
abbrev cX12_only : ByteArray := prog_14_method_51_code
def yX12_only : MethodName := ⟨RX12, "only", "(III)J"⟩
abbrev cX12_chosen : ByteArray := prog_14_method_52_code
def yX12_chosen : MethodName := ⟨RX12, "chosen", "(I)I"⟩
abbrev cX12_wise : ByteArray := prog_14_method_53_code
def yX12_wise : MethodName := ⟨RX12, "wise", "(II)I"⟩
abbrev cX12_spent : ByteArray := prog_14_method_54_code
def yX12_spent : MethodName := ⟨RX12, "spent", "(II)J"⟩
abbrev cX12_threshold : ByteArray := prog_14_method_55_code
def yX12_threshold : MethodName := ⟨RX12, "threshold", "(I)I"⟩
abbrev cX12_century : ByteArray := prog_14_method_56_code
def yX12_century : MethodName := ⟨RX12, "century", "(I)I"⟩
abbrev cX12_gainBy : ByteArray := prog_14_method_57_code
def yX12_gainBy : MethodName := ⟨RX12, "gainBy", "(I)I"⟩
abbrev cX12_bestSet : ByteArray := prog_14_method_58_code
def yX12_bestSet : MethodName := ⟨RX12, "bestSet", "()I"⟩
abbrev cX12_plan : ByteArray := prog_14_method_59_code
def yX12_plan : MethodName := ⟨RX12, "plan", "(I)I"⟩
abbrev cX12_ends : ByteArray := prog_14_method_60_code
def yX12_ends : MethodName := ⟨RX12, "ends", "(I)I"⟩
abbrev cX12_see : ByteArray := prog_14_method_61_code
def yX12_see : MethodName := ⟨RX12, "see", "(III)I"⟩
abbrev cX12_isSeen : ByteArray := prog_14_method_62_code
def yX12_isSeen : MethodName := ⟨RX12, "isSeen", "(I)Z"⟩
abbrev cX12_can : ByteArray := prog_14_method_63_code
def yX12_can : MethodName := ⟨RX12, "can", "(II)I"⟩
abbrev cX12_darked : ByteArray := prog_14_method_64_code
def yX12_darked : MethodName := ⟨RX12, "darked", "(I)I"⟩
abbrev cX12_book : ByteArray := prog_14_method_65_code
def yX12_book : MethodName := ⟨RX12, "book", "(II)I"⟩
abbrev cX12_looked : ByteArray := prog_14_method_66_code
def yX12_looked : MethodName := ⟨RX12, "looked", "()I"⟩
abbrev cX12_judge : ByteArray := prog_14_method_67_code
def yX12_judge : MethodName := ⟨RX12, "judge", "(II)I"⟩
abbrev cX12_image : ByteArray := prog_14_method_68_code
def yX12_image : MethodName := ⟨RX12, "image", "()I"⟩
abbrev cX12_undo : ByteArray := prog_14_method_69_code
def yX12_undo : MethodName := ⟨RX12, "undo", "()I"⟩
abbrev cX12_body : ByteArray := prog_14_method_70_code
def yX12_body : MethodName := ⟨RX12, "body", "(I)V"⟩
abbrev cX12_needDarkens : ByteArray := prog_14_method_71_code
def yX12_needDarkens : MethodName := ⟨RX12, "needDarkens", "(II)I"⟩
abbrev cX12_darkensAct : ByteArray := prog_14_method_72_code
def yX12_darkensAct : MethodName := ⟨RX12, "darkensAct", "(II)I"⟩
abbrev cX12_needPleads : ByteArray := prog_14_method_73_code
def yX12_needPleads : MethodName := ⟨RX12, "needPleads", "(II)I"⟩
abbrev cX12_siegePleads : ByteArray := prog_14_method_74_code
def yX12_siegePleads : MethodName := ⟨RX12, "siegePleads", "(II)I"⟩
abbrev cX12_pleadsAct : ByteArray := prog_14_method_75_code
def yX12_pleadsAct : MethodName := ⟨RX12, "pleadsAct", "(II)I"⟩
abbrev cX12_needTells : ByteArray := prog_14_method_76_code
def yX12_needTells : MethodName := ⟨RX12, "needTells", "(II)I"⟩
abbrev cX12_tellsAct : ByteArray := prog_14_method_77_code
def yX12_tellsAct : MethodName := ⟨RX12, "tellsAct", "(II)I"⟩
abbrev cX12_act : ByteArray := prog_14_method_78_code
def yX12_act : MethodName := ⟨RX12, "act", "(III)I"⟩
abbrev cX12_trace : ByteArray := prog_14_method_79_code
def yX12_trace : MethodName := ⟨RX12, "trace", "(I)I"⟩
abbrev cX12_taken : ByteArray := prog_14_method_80_code
def yX12_taken : MethodName := ⟨RX12, "taken", "(II)I"⟩
abbrev cX12_count : ByteArray := prog_14_method_81_code
def yX12_count : MethodName := ⟨RX12, "count", "(I)I"⟩
abbrev cX12_isTape : ByteArray := prog_14_method_82_code
def yX12_isTape : MethodName := ⟨RX12, "isTape", "(I)Z"⟩
abbrev cX12_tape : ByteArray := prog_14_method_83_code
def yX12_tape : MethodName := ⟨RX12, "tape", "(III)I"⟩
abbrev cX12_narrow : ByteArray := prog_14_method_84_code
def yX12_narrow : MethodName := ⟨RX12, "narrow", "(IJ)J"⟩
abbrev cX12_item : ByteArray := prog_14_method_85_code
def yX12_item : MethodName := ⟨RX12, "item", "(IIJ)I"⟩
abbrev cX12_read : ByteArray := prog_14_method_86_code
def yX12_read : MethodName := ⟨RX12, "read", "(II)J"⟩
abbrev cX12_shift : ByteArray := prog_14_method_87_code
def yX12_shift : MethodName := ⟨RX12, "shift", "(IIIII)I"⟩
def RJ5 : String := "java/lang/AbstractStringBuilder"
def TJ5 : u_T := fun k => match k with
  | _ => ("", "", "", false)
def tyJ5 : Nat → FieldType := fun k => match k with
  | _ => .int
abbrev wsJ50 : List Cond := u_ws RJ5 TJ5 0
theorem nmJ5 : ∀ a, a < 0 → ∀ b, b < 0 → a ≠ b → (TJ5 a).2.1 ≠ (TJ5 b).2.1 := by decide +kernel
theorem tyJ5_ok : ∀ k, k < 0 → parseFieldDescriptor (TJ5 k).2.2.1 = some (tyJ5 k) := by decide +kernel
abbrev cJ5_init_d00df : ByteArray := prog_15_method_2_code
def yJ5_init_d00df : MethodName := ⟨RJ5, "<init>", "(I)V"⟩
abbrev cJ5_length_8abf5 : ByteArray := prog_15_method_6_code
def yJ5_length_8abf5 : MethodName := ⟨RJ5, "length", "()I"⟩
abbrev cJ5_ensureCapacityInternal_d00df : ByteArray := prog_15_method_9_code
def yJ5_ensureCapacityInternal_d00df : MethodName := ⟨RJ5, "ensureCapacityInternal", "(I)V"⟩
abbrev cJ5_newCapacity_0f7a4 : ByteArray := prog_15_method_10_code
def yJ5_newCapacity_0f7a4 : MethodName := ⟨RJ5, "newCapacity", "(I)I"⟩
abbrev cJ5_inflate_da8c8 : ByteArray := prog_15_method_11_code
def yJ5_inflate_da8c8 : MethodName := ⟨RJ5, "inflate", "()V"⟩
abbrev cJ5_setLength_d00df : ByteArray := prog_15_method_13_code
def yJ5_setLength_d00df : MethodName := ⟨RJ5, "setLength", "(I)V"⟩
abbrev cJ5_append_3fe6f : ByteArray := prog_15_method_31_code
def yJ5_append_3fe6f : MethodName := ⟨RJ5, "append", "(C)Ljava/lang/AbstractStringBuilder;"⟩
abbrev cJ5_getValue_6d5f1 : ByteArray := prog_15_method_64_code
def yJ5_getValue_6d5f1 : MethodName := ⟨RJ5, "getValue", "()[B"⟩
abbrev cJ5_isLatin1_aae02 : ByteArray := prog_15_method_68_code
def yJ5_isLatin1_aae02 : MethodName := ⟨RJ5, "isLatin1", "()Z"⟩
def RJ11 : String := "java/lang/Character"
def TJ11 : u_T := fun k => match k with
  | _ => ("", "", "", false)
def tyJ11 : Nat → FieldType := fun k => match k with
  | _ => .int
abbrev wsJ110 : List Cond := u_ws RJ11 TJ11 0
theorem nmJ11 : ∀ a, a < 0 → ∀ b, b < 0 → a ≠ b → (TJ11 a).2.1 ≠ (TJ11 b).2.1 := by decide +kernel
theorem tyJ11_ok : ∀ k, k < 0 → parseFieldDescriptor (TJ11 k).2.2.1 = some (tyJ11 k) := by decide +kernel
abbrev cJ11_isValidCodePoint_9a6ad : ByteArray := prog_16_method_11_code
def yJ11_isValidCodePoint_9a6ad : MethodName := ⟨RJ11, "isValidCodePoint", "(I)Z"⟩
abbrev cJ11_highSurrogate_5068e : ByteArray := prog_16_method_28_code
def yJ11_highSurrogate_5068e : MethodName := ⟨RJ11, "highSurrogate", "(I)C"⟩
abbrev cJ11_lowSurrogate_5068e : ByteArray := prog_16_method_29_code
def yJ11_lowSurrogate_5068e : MethodName := ⟨RJ11, "lowSurrogate", "(I)C"⟩
def RJx8e188 : String := "java/lang/Cloneable"
def TJx8e188 : u_T := fun k => match k with
  | _ => ("", "", "", false)
def tyJx8e188 : Nat → FieldType := fun k => match k with
  | _ => .int
abbrev wsJx8e1880 : List Cond := u_ws RJx8e188 TJx8e188 0
theorem nmJx8e188 : ∀ a, a < 0 → ∀ b, b < 0 → a ≠ b → (TJx8e188 a).2.1 ≠ (TJx8e188 b).2.1 := by decide +kernel
theorem tyJx8e188_ok : ∀ k, k < 0 → parseFieldDescriptor (TJx8e188 k).2.2.1 = some (tyJx8e188 k) := by decide +kernel
def RJ6 : String := "java/lang/Integer"
def TJ6 : u_T := fun k => match k with
  | _ => ("", "", "", false)
def tyJ6 : Nat → FieldType := fun k => match k with
  | _ => .int
abbrev wsJ60 : List Cond := u_ws RJ6 TJ6 0
theorem nmJ6 : ∀ a, a < 0 → ∀ b, b < 0 → a ≠ b → (TJ6 a).2.1 ≠ (TJ6 b).2.1 := by decide +kernel
theorem tyJ6_ok : ∀ k, k < 0 → parseFieldDescriptor (TJ6 k).2.2.1 = some (tyJ6 k) := by decide +kernel
abbrev cJ6_bitCount_0f7a4 : ByteArray := prog_18_method_49_code
def yJ6_bitCount_0f7a4 : MethodName := ⟨RJ6, "bitCount", "(I)I"⟩
def RJ9 : String := "java/lang/Math"
def TJ9 : u_T := fun k => match k with
  | _ => ("", "", "", false)
def tyJ9 : Nat → FieldType := fun k => match k with
  | _ => .int
abbrev wsJ90 : List Cond := u_ws RJ9 TJ9 0
theorem nmJ9 : ∀ a, a < 0 → ∀ b, b < 0 → a ≠ b → (TJ9 a).2.1 ≠ (TJ9 b).2.1 := by decide +kernel
theorem tyJ9_ok : ∀ k, k < 0 → parseFieldDescriptor (TJ9 k).2.2.1 = some (tyJ9 k) := by decide +kernel
abbrev cJ9_floorDiv_f86c9 : ByteArray := prog_19_method_49_code
def yJ9_floorDiv_f86c9 : MethodName := ⟨RJ9, "floorDiv", "(JJ)J"⟩
abbrev cJ9_floorMod_7cf53 : ByteArray := prog_19_method_50_code
def yJ9_floorMod_7cf53 : MethodName := ⟨RJ9, "floorMod", "(II)I"⟩
abbrev cJ9_abs_067f4 : ByteArray := prog_19_method_61_code
def yJ9_abs_067f4 : MethodName := ⟨RJ9, "abs", "(J)J"⟩
abbrev cJ9_max_7cf53 : ByteArray := prog_19_method_65_code
def yJ9_max_7cf53 : MethodName := ⟨RJ9, "max", "(II)I"⟩
abbrev cJ9_max_f86c9 : ByteArray := prog_19_method_66_code
def yJ9_max_f86c9 : MethodName := ⟨RJ9, "max", "(JJ)J"⟩
abbrev cJ9_min_7cf53 : ByteArray := prog_19_method_69_code
def yJ9_min_7cf53 : MethodName := ⟨RJ9, "min", "(II)I"⟩
def RJ0 : String := "java/lang/String"
def TJ0 : u_T := fun k => match k with
  | 0 => ("java/lang/String", "value", "[B", true)
  | 1 => ("java/lang/String", "coder", "B", true)
  | 2 => ("java/lang/String", "hash", "I", false)
  | _ => ("java/lang/String", "hashIsZero", "Z", false)
def tyJ0 : Nat → FieldType := fun k => match k with
  | 0 => .array .byte
  | 1 => .byte
  | 2 => .int
  | _ => .boolean
abbrev wsJ00 : List Cond := u_ws RJ0 TJ0 4
theorem nmJ0 : ∀ a, a < 4 → ∀ b, b < 4 → a ≠ b → (TJ0 a).2.1 ≠ (TJ0 b).2.1 := by decide +kernel
theorem tyJ0_ok : ∀ k, k < 4 → parseFieldDescriptor (TJ0 k).2.2.1 = some (tyJ0 k) := by decide +kernel
abbrev cJ0_init_81219 : ByteArray := prog_20_method_53_code
def yJ0_init_81219 : MethodName := ⟨RJ0, "<init>", "(Ljava/lang/StringBuilder;)V"⟩
abbrev cJ0_length_8abf5 : ByteArray := prog_20_method_54_code
def yJ0_length_8abf5 : MethodName := ⟨RJ0, "length", "()I"⟩
abbrev cJ0_charAt_5068e : ByteArray := prog_20_method_56_code
def yJ0_charAt_5068e : MethodName := ⟨RJ0, "charAt", "(I)C"⟩
abbrev cJ0_indexOf_0f7a4 : ByteArray := prog_20_method_79_code
def yJ0_indexOf_0f7a4 : MethodName := ⟨RJ0, "indexOf", "(I)I"⟩
abbrev cJ0_indexOf_7cf53 : ByteArray := prog_20_method_80_code
def yJ0_indexOf_7cf53 : MethodName := ⟨RJ0, "indexOf", "(II)I"⟩
abbrev cJ0_init_db425 : ByteArray := prog_20_method_150_code
def yJ0_init_db425 : MethodName := ⟨RJ0, "<init>", "(Ljava/lang/AbstractStringBuilder;Ljava/lang/Void;)V"⟩
abbrev cJ0_coder_7d493 : ByteArray := prog_20_method_152_code
def yJ0_coder_7d493 : MethodName := ⟨RJ0, "coder", "()B"⟩
abbrev cJ0_isLatin1_aae02 : ByteArray := prog_20_method_154_code
def yJ0_isLatin1_aae02 : MethodName := ⟨RJ0, "isLatin1", "()Z"⟩
abbrev cJ0_checkIndex_df160 : ByteArray := prog_20_method_155_code
def yJ0_checkIndex_df160 : MethodName := ⟨RJ0, "checkIndex", "(II)V"⟩
abbrev cJ0_checkBoundsOffCount_cabcc : ByteArray := prog_20_method_157_code
def yJ0_checkBoundsOffCount_cabcc : MethodName := ⟨RJ0, "checkBoundsOffCount", "(III)I"⟩
abbrev cJ0_checkBoundsBeginEnd_23922 : ByteArray := prog_20_method_158_code
def yJ0_checkBoundsBeginEnd_23922 : MethodName := ⟨RJ0, "checkBoundsBeginEnd", "(III)V"⟩
def RJ4 : String := "java/lang/StringBuilder"
def TJ4 : u_T := fun k => match k with
  | 0 => ("java/lang/AbstractStringBuilder", "value", "[B", false)
  | 1 => ("java/lang/AbstractStringBuilder", "coder", "B", false)
  | 2 => ("java/lang/AbstractStringBuilder", "maybeLatin1", "Z", false)
  | _ => ("java/lang/AbstractStringBuilder", "count", "I", false)
def tyJ4 : Nat → FieldType := fun k => match k with
  | 0 => .array .byte
  | 1 => .byte
  | 2 => .boolean
  | _ => .int
abbrev wsJ40 : List Cond := u_ws RJ4 TJ4 4
theorem nmJ4 : ∀ a, a < 4 → ∀ b, b < 4 → a ≠ b → (TJ4 a).2.1 ≠ (TJ4 b).2.1 := by decide +kernel
theorem tyJ4_ok : ∀ k, k < 4 → parseFieldDescriptor (TJ4 k).2.2.1 = some (tyJ4 k) := by decide +kernel
abbrev cJ4_init_da8c8 : ByteArray := prog_21_method_1_code
def yJ4_init_da8c8 : MethodName := ⟨RJ4, "<init>", "()V"⟩
abbrev cJ4_append_cf468 : ByteArray := prog_21_method_14_code
def yJ4_append_cf468 : MethodName := ⟨RJ4, "append", "(C)Ljava/lang/StringBuilder;"⟩
abbrev cJ4_toString_0e30d : ByteArray := prog_21_method_42_code
def yJ4_toString_0e30d : MethodName := ⟨RJ4, "toString", "()Ljava/lang/String;"⟩
abbrev cJ4_setLength_d00df : ByteArray := prog_21_method_89_code
def yJ4_setLength_d00df : MethodName := ⟨RJ4, "setLength", "(I)V"⟩
abbrev cJ4_length_8abf5 : ByteArray := prog_21_method_93_code
def yJ4_length_8abf5 : MethodName := ⟨RJ4, "length", "()I"⟩
def RJ1 : String := "java/lang/StringLatin1"
def TJ1 : u_T := fun k => match k with
  | _ => ("", "", "", false)
def tyJ1 : Nat → FieldType := fun k => match k with
  | _ => .int
abbrev wsJ10 : List Cond := u_ws RJ1 TJ1 0
theorem nmJ1 : ∀ a, a < 0 → ∀ b, b < 0 → a ≠ b → (TJ1 a).2.1 ≠ (TJ1 b).2.1 := by decide +kernel
theorem tyJ1_ok : ∀ k, k < 0 → parseFieldDescriptor (TJ1 k).2.2.1 = some (tyJ1 k) := by decide +kernel
abbrev cJ1_charAt_3b067 : ByteArray := prog_22_method_2_code
def yJ1_charAt_3b067 : MethodName := ⟨RJ1, "charAt", "([BI)C"⟩
abbrev cJ1_canEncode_fc78d : ByteArray := prog_22_method_3_code
def yJ1_canEncode_fc78d : MethodName := ⟨RJ1, "canEncode", "(C)Z"⟩
abbrev cJ1_canEncode_9a6ad : ByteArray := prog_22_method_4_code
def yJ1_canEncode_9a6ad : MethodName := ⟨RJ1, "canEncode", "(I)Z"⟩
abbrev cJ1_indexOf_4cfef : ByteArray := prog_22_method_22_code
def yJ1_indexOf_4cfef : MethodName := ⟨RJ1, "indexOf", "([BIII)I"⟩
abbrev cJ1_indexOfChar_4cfef : ByteArray := prog_22_method_23_code
def yJ1_indexOfChar_4cfef : MethodName := ⟨RJ1, "indexOfChar", "([BIII)I"⟩
abbrev cJ1_fillNull_b72d1 : ByteArray := prog_22_method_48_code
def yJ1_fillNull_b72d1 : MethodName := ⟨RJ1, "fillNull", "([BII)V"⟩
abbrev cJ1_inflate_0e8fd : ByteArray := prog_22_method_50_code
def yJ1_inflate_0e8fd : MethodName := ⟨RJ1, "inflate", "([BI[BII)V"⟩
def RJ2 : String := "java/lang/StringUTF16"
def TJ2 : u_T := fun k => match k with
  | _ => ("", "", "", false)
def tyJ2 : Nat → FieldType := fun k => match k with
  | _ => .int
abbrev wsJ20 : List Cond := u_ws RJ2 TJ2 0
theorem nmJ2 : ∀ a, a < 0 → ∀ b, b < 0 → a ≠ b → (TJ2 a).2.1 ≠ (TJ2 b).2.1 := by decide +kernel
theorem tyJ2_ok : ∀ k, k < 0 → parseFieldDescriptor (TJ2 k).2.2.1 = some (tyJ2 k) := by decide +kernel
abbrev cJ2_newBytesFor_77867 : ByteArray := prog_23_method_2_code
def yJ2_newBytesFor_77867 : MethodName := ⟨RJ2, "newBytesFor", "(I)[B"⟩
abbrev cJ2_newBytesLength_0f7a4 : ByteArray := prog_23_method_3_code
def yJ2_newBytesLength_0f7a4 : MethodName := ⟨RJ2, "newBytesLength", "(I)I"⟩
abbrev cJ2_putChar_b72d1 : ByteArray := prog_23_method_4_code
def yJ2_putChar_b72d1 : MethodName := ⟨RJ2, "putChar", "([BII)V"⟩
abbrev cJ2_getChar_3b067 : ByteArray := prog_23_method_5_code
def yJ2_getChar_3b067 : MethodName := ⟨RJ2, "getChar", "([BI)C"⟩
abbrev cJ2_length_9d52b : ByteArray := prog_23_method_6_code
def yJ2_length_9d52b : MethodName := ⟨RJ2, "length", "([B)I"⟩
abbrev cJ2_coderFromArrayLen_85cad : ByteArray := prog_23_method_15_code
def yJ2_coderFromArrayLen_85cad : MethodName := ⟨RJ2, "coderFromArrayLen", "([BI)B"⟩
abbrev cJ2_compress_39247 : ByteArray := prog_23_method_17_code
def yJ2_compress_39247 : MethodName := ⟨RJ2, "compress", "([BII)[B"⟩
abbrev cJ2_compress_5af95 : ByteArray := prog_23_method_22_code
def yJ2_compress_5af95 : MethodName := ⟨RJ2, "compress", "([BI[BII)I"⟩
abbrev cJ2_indexOf_4cfef : ByteArray := prog_23_method_40_code
def yJ2_indexOf_4cfef : MethodName := ⟨RJ2, "indexOf", "([BIII)I"⟩
abbrev cJ2_indexOfChar_4cfef : ByteArray := prog_23_method_47_code
def yJ2_indexOfChar_4cfef : MethodName := ⟨RJ2, "indexOfChar", "([BIII)I"⟩
abbrev cJ2_indexOfCharUnsafe_4cfef : ByteArray := prog_23_method_48_code
def yJ2_indexOfCharUnsafe_4cfef : MethodName := ⟨RJ2, "indexOfCharUnsafe", "([BIII)I"⟩
abbrev cJ2_indexOfSupplementary_4cfef : ByteArray := prog_23_method_49_code
def yJ2_indexOfSupplementary_4cfef : MethodName := ⟨RJ2, "indexOfSupplementary", "([BIII)I"⟩
abbrev cJ2_fillNull_b72d1 : ByteArray := prog_23_method_70_code
def yJ2_fillNull_b72d1 : MethodName := ⟨RJ2, "fillNull", "([BII)V"⟩
abbrev cJ2_putCharSB_b72d1 : ByteArray := prog_23_method_71_code
def yJ2_putCharSB_b72d1 : MethodName := ⟨RJ2, "putCharSB", "([BII)V"⟩
abbrev cJ2_charAt_3b067 : ByteArray := prog_23_method_83_code
def yJ2_charAt_3b067 : MethodName := ⟨RJ2, "charAt", "([BI)C"⟩
abbrev cJ2_inflate_0e8fd : ByteArray := prog_23_method_86_code
def yJ2_inflate_0e8fd : MethodName := ⟨RJ2, "inflate", "([BI[BII)V"⟩
abbrev cJ2_checkIndex_2214a : ByteArray := prog_23_method_91_code
def yJ2_checkIndex_2214a : MethodName := ⟨RJ2, "checkIndex", "(I[B)V"⟩
abbrev cJ2_checkBoundsBeginEnd_d044e : ByteArray := prog_23_method_93_code
def yJ2_checkBoundsBeginEnd_d044e : MethodName := ⟨RJ2, "checkBoundsBeginEnd", "(II[B)V"⟩
abbrev cJ2_checkBoundsOffCount_d044e : ByteArray := prog_23_method_94_code
def yJ2_checkBoundsOffCount_d044e : MethodName := ⟨RJ2, "checkBoundsOffCount", "(II[B)V"⟩
def RJ10 : String := "java/lang/System"
def TJ10 : u_T := fun k => match k with
  | _ => ("", "", "", false)
def tyJ10 : Nat → FieldType := fun k => match k with
  | _ => .int
abbrev wsJ100 : List Cond := u_ws RJ10 TJ10 0
theorem nmJ10 : ∀ a, a < 0 → ∀ b, b < 0 → a ≠ b → (TJ10 a).2.1 ≠ (TJ10 b).2.1 := by decide +kernel
theorem tyJ10_ok : ∀ k, k < 0 → parseFieldDescriptor (TJ10 k).2.2.1 = some (tyJ10 k) := by decide +kernel
def RJ7 : String := "java/util/Arrays"
def TJ7 : u_T := fun k => match k with
  | _ => ("", "", "", false)
def tyJ7 : Nat → FieldType := fun k => match k with
  | _ => .int
abbrev wsJ70 : List Cond := u_ws RJ7 TJ7 0
theorem nmJ7 : ∀ a, a < 0 → ∀ b, b < 0 → a ≠ b → (TJ7 a).2.1 ≠ (TJ7 b).2.1 := by decide +kernel
theorem tyJ7_ok : ∀ k, k < 0 → parseFieldDescriptor (TJ7 k).2.2.1 = some (tyJ7 k) := by decide +kernel
abbrev cJ7_rangeCheck_23922 : ByteArray := prog_25_method_30_code
def yJ7_rangeCheck_23922 : MethodName := ⟨RJ7, "rangeCheck", "(III)V"⟩
abbrev cJ7_fill_eb02e : ByteArray := prog_25_method_110_code
def yJ7_fill_eb02e : MethodName := ⟨RJ7, "fill", "([BIIB)V"⟩
abbrev cJ7_copyOf_9075b : ByteArray := prog_25_method_121_code
def yJ7_copyOf_9075b : MethodName := ⟨RJ7, "copyOf", "([BI)[B"⟩
abbrev cJ7_checkLength_df160 : ByteArray := prog_25_method_131_code
def yJ7_checkLength_df160 : MethodName := ⟨RJ7, "checkLength", "(II)V"⟩
abbrev cJ7_copyOfRange_39247 : ByteArray := prog_25_method_132_code
def yJ7_copyOfRange_39247 : MethodName := ⟨RJ7, "copyOfRange", "([BII)[B"⟩
abbrev cJ7_copyOfRangeByte_39247 : ByteArray := prog_25_method_133_code
def yJ7_copyOfRangeByte_39247 : MethodName := ⟨RJ7, "copyOfRangeByte", "([BII)[B"⟩
def RJ8 : String := "jdk/internal/util/ArraysSupport"
def TJ8 : u_T := fun k => match k with
  | _ => ("", "", "", false)
def tyJ8 : Nat → FieldType := fun k => match k with
  | _ => .int
abbrev wsJ80 : List Cond := u_ws RJ8 TJ8 0
theorem nmJ8 : ∀ a, a < 0 → ∀ b, b < 0 → a ≠ b → (TJ8 a).2.1 ≠ (TJ8 b).2.1 := by decide +kernel
theorem tyJ8_ok : ∀ k, k < 0 → parseFieldDescriptor (TJ8 k).2.2.1 = some (tyJ8 k) := by decide +kernel
abbrev cJ8_newLength_cabcc : ByteArray := prog_26_method_27_code
def yJ8_newLength_cabcc : MethodName := ⟨RJ8, "newLength", "(III)I"⟩
abbrev cJ8_hugeLength_7cf53 : ByteArray := prog_26_method_28_code
def yJ8_hugeLength_7cf53 : MethodName := ⟨RJ8, "hugeLength", "(II)I"⟩
def RJ3 : String := "jdk/internal/util/Preconditions"
def TJ3 : u_T := fun k => match k with
  | _ => ("", "", "", false)
def tyJ3 : Nat → FieldType := fun k => match k with
  | _ => .int
abbrev wsJ30 : List Cond := u_ws RJ3 TJ3 0
theorem nmJ3 : ∀ a, a < 0 → ∀ b, b < 0 → a ≠ b → (TJ3 a).2.1 ≠ (TJ3 b).2.1 := by decide +kernel
theorem tyJ3_ok : ∀ k, k < 0 → parseFieldDescriptor (TJ3 k).2.2.1 = some (tyJ3 k) := by decide +kernel
abbrev cJ3_checkIndex_8e157 : ByteArray := prog_27_method_11_code
def yJ3_checkIndex_8e157 : MethodName := ⟨RJ3, "checkIndex", "(IILjava/util/function/BiFunction;)I"⟩
abbrev cJ3_checkFromToIndex_8c36e : ByteArray := prog_27_method_12_code
def yJ3_checkFromToIndex_8c36e : MethodName := ⟨RJ3, "checkFromToIndex", "(IIILjava/util/function/BiFunction;)I"⟩
abbrev cJ3_checkFromIndexSize_8c36e : ByteArray := prog_27_method_13_code
def yJ3_checkFromIndexSize_8c36e : MethodName := ⟨RJ3, "checkFromIndexSize", "(IIILjava/util/function/BiFunction;)I"⟩
def RL : String := "EclipsesKeptLaw"
abbrev cL_law : ByteArray := code
def yL_law : MethodName := ⟨RL, "law", "([I)Z"⟩
abbrev vwCl : List vw_C := [(RJ0, TJ0, 4), (RJ4, TJ4, 4), (RX0, TX0, 10), (RX1, TX1, 4), (RX2, TX2, 4), (RX3, TX3, 4), (RX4, TX4, 4), (RX5, TX5, 4), (RX6, TX6, 4), (RX7, TX7, 17), (RX8, TX8, 3), (RX9, TX9, 4), (RX10, TX10, 8), (RX11, TX11, 8), (RX12, TX12, 63)]
end
section
/-! the reference's object: its state (int fields, int arrays, long arrays, by the slot of the field), its cells, its rows -/
abbrev mm_S : Type := (Nat → Int32) × (Nat → Nat → Int32) × (Nat → Nat → Int64)
def mm_up {α : Type} (f : Nat → α) (k : Nat) (v : α) : Nat → α := fun j => if j = k then v else f j
def mm_I (st : mm_S) (k : Nat) : Int32 := st.1 k
def mm_G (st : mm_S) (k i : Nat) : Int32 := st.2.1 k i
def mm_L (st : mm_S) (k i : Nat) : Int64 := st.2.2 k i
def mm_sI (st : mm_S) (k : Nat) (v : Int32) : mm_S := (mm_up st.1 k v, st.2)
def mm_sG (st : mm_S) (k i : Nat) (v : Int32) : mm_S := (st.1, mm_up st.2.1 k (upd (st.2.1 k) i v), st.2.2)
def mm_sL (st : mm_S) (k i : Nat) (v : Int64) : mm_S := (st.1, st.2.1, mm_up st.2.2 k (vp_updL (st.2.2 k) i v))
def mm_kds : List Nat := [0, 0, 0, 0, 1, 1, 1, 1, 0, 0, 0, 0, 0, 1, 1, 1, 1, 1, 1, 1, 1, 0, 0, 0, 1, 2, 3, 0, 3, 0, 1, 0, 0, 1, 1, 1, 1, 1, 0, 0, 0, 0, 0, 0, 0, 0, 0, 1, 1, 1, 1, 1, 1, 1, 1, 1, 1, 0, 1, 1, 1, 3, 3]
def mm_lns : List Nat := [0, 0, 0, 0, 6, 6, 6, 24, 0, 0, 0, 0, 0, 100, 6, 60, 60, 60, 60, 600, 101, 0, 0, 0, 13, 100, 90, 0, 90, 0, 8, 0, 0, 5, 5, 5, 8, 8, 0, 0, 0, 0, 0, 0, 0, 0, 0, 6, 6, 6, 24, 8, 5, 5, 5, 8, 8, 0, 20, 6, 6, 360, 60]
def mm_ar : List Nat := [4, 5, 6, 7, 13, 14, 15, 16, 17, 18, 19, 20, 24, 25, 26, 28, 30, 33, 34, 35, 36, 37, 47, 48, 49, 50, 51, 52, 53, 54, 55, 56, 58, 59, 60, 61, 62]
def mm_kd (k : Nat) : Nat := mm_kds.getD k 0
def mm_ln (k : Nat) : Nat := mm_lns.getD k 0
/-! functional code: what is left to be done, partly told -/
def fc_bn {α β γ : Type} (x : Option (α × β)) (k : α → β → Option γ) : Option γ := match x with
  | some q => k q.1 q.2
  | none => none
def fc_bv {β γ : Type} (x : Option β) (k : β → Option γ) : Option γ := match x with
  | some q => k q
  | none => none
def fc_nm {α γ : Type} (e : α) (k : α → γ) : γ := k e
def fc_gd {γ : Type} (b : Bool) (x : Option γ) : Option γ := match b with
  | true => x
  | false => none
def fc_ix (i : Int32) (n : Nat) : Bool := decide (0 ≤ i.toInt ∧ i.toInt < n)
def fc_zb (x : Int32) : Bool := decide (x = 0 ∨ x = 1)
def fc_nz (x : Int32) : Bool := decide (¬ x = 0)
def fc_nzl (x : Int64) : Bool := decide (¬ x = 0)
def fc_lp {α β : Type} (F : (α → Option β) → α → Option β) : Nat → α → Option β
  | 0, _ => none
  | n + 1, a => F (fc_lp F n) a
theorem dd_at {cc : ByteArray} {t : List (Nat × Instr × Nat)} (h : t.all (fun q => decide (decode cc q.1 = .ok (q.2.1, q.2.2))) = true) (i : Nat) {pc n : Nat} {ins : Instr} (hi : t[i]? = some (pc, ins, n)) : decode cc pc = .ok (ins, n) := by
  have h1 : decide (decode cc pc = .ok (ins, n)) = true := List.all_eq_true.mp h (pc, ins, n) (List.mem_of_getElem? hi)
  exact of_decide_eq_true h1
theorem fc_no {α : Type} {v : α} {P : Prop} (h : (none : Option α) = some v) : P := by cases h
theorem fc_of_bn {α β γ : Type} {x : Option (α × β)} {k : α → β → Option γ} {v : γ} (h : fc_bn x k = some v) : ∃ a b, x = some (a, b) ∧ k a b = some v := by
  cases x with
  | none => cases h
  | some q => exact ⟨q.1, q.2, rfl, h⟩
theorem fc_of_bv {β γ : Type} {x : Option β} {k : β → Option γ} {v : γ} (h : fc_bv x k = some v) : ∃ b, x = some b ∧ k b = some v := by
  cases x with
  | none => cases h
  | some q => exact ⟨q, rfl, h⟩
theorem fc_of_nm {α γ : Type} {e : α} {k : α → γ} {v : γ} (h : fc_nm e k = v) (x : α) (hx : x = e) : k x = v := by
  subst hx
  exact h
theorem fc_of_gd {γ : Type} {b : Bool} {x : Option γ} {v : γ} (h : fc_gd b x = some v) : b = true ∧ x = some v := by
  cases b with
  | true => exact ⟨rfl, h⟩
  | false => cases h
theorem fc_of_t {γ : Type} {c : Prop} {_ : Decidable c} {a b : γ} {v : γ} (h : (if c then a else b) = v) (hc : c) : a = v := by rw [if_pos hc] at h; exact h
theorem fc_of_f {γ : Type} {c : Prop} {_ : Decidable c} {a b : γ} {v : γ} (h : (if c then a else b) = v) (hc : ¬ c) : b = v := by rw [if_neg hc] at h; exact h
theorem fc_of_r {α β : Type} {a c : α} {b d : β} (h : some (a, b) = some (c, d)) : a = c ∧ b = d := by cases h; exact ⟨rfl, rfl⟩
theorem fc_of_v {β : Type} {b d : β} (h : some b = some d) : b = d := by cases h; rfl
theorem fc_of_ix {i : Int32} {n : Nat} (h : fc_ix i n = true) : vp_in i n := vp_in_iff.mpr (of_decide_eq_true h)
theorem fc_of_nz {x : Int32} (h : fc_nz x = true) : ¬ x = 0 := of_decide_eq_true h
theorem fc_of_nzl {x : Int64} (h : fc_nzl x = true) : ¬ x = 0 := of_decide_eq_true h
theorem fc_of_zb {x : Int32} (h : fc_zb x = true) : narrow .boolean (.int x) = .int x := by
  rcases of_decide_eq_true h with rfl | rfl <;> rfl
/-! cells -/
def mm_val (ad : Nat → Nat) (st : mm_S) (k : Nat) : Value := if mm_kd k = 0 then .int (st.1 k) else .ref (ad k)
def mm_cell (cs : ClassId × ClassId × ClassId) (st : mm_S) (k : Nat) : va_E := if mm_kd k = 3 then .inl (cs.2.2, mm_ln k, .inr (.inl (st.2.2 k))) else if mm_kd k = 2 then .inl (cs.2.1, mm_ln k, .inl (st.2.1 k)) else .inl (cs.1, mm_ln k, .inl (st.2.1 k))
def mm_fs (ad : Nat → Nat) (st : mm_S) : List Value := (List.range 63).map (mm_val ad st)
def mm_w (o : Nat) (ad : Nat → Nat) (cs : ClassId × ClassId × ClassId) (st : mm_S) : va_W := (o, .inr (14, mm_fs ad st)) :: mm_ar.map (fun k => (ad k, mm_cell cs st k))
def mm_tys (cs : ClassId × ClassId × ClassId) : List (ClassId × FieldType) := [(cs.1, .int), (cs.2.1, .boolean), (cs.2.2, .long)]
theorem mm_mapset {α : Type} {l : List Nat} {f g : Nat → α} {q k : Nat} (hq : l[q]? = some k) (hn : l.Nodup) (h : ∀ j, j ≠ k → g j = f j) : (l.map f).set q (g k) = l.map g := by
  apply List.ext_getElem?
  intro i
  have hl := (List.getElem?_eq_some_iff.mp hq).1
  by_cases hi : i = q
  · subst hi
    rw [List.getElem?_set_self (by rw [List.length_map]; exact hl), List.getElem?_map, hq]
    rfl
  · rw [List.getElem?_set_ne (Ne.symm hi), List.getElem?_map, List.getElem?_map]
    cases hj : l[i]? with
    | none => rfl
    | some j =>
      have hne : j ≠ k := by
        intro e
        subst e
        have hi2 := (List.getElem?_eq_some_iff.mp hj).1
        exact hi ((List.getElem_inj hn).mp ((List.getElem?_eq_some_iff.mp hj).2.trans (List.getElem?_eq_some_iff.mp hq).2.symm))
      show some (f j) = some (g j)
      rw [h j hne]
theorem mm_ar_nd : mm_ar.Nodup := by decide +kernel
theorem mm_fs_get {ad : Nat → Nat} {st : mm_S} {k : Nat} (hk : k < 63) : (mm_fs ad st)[k]? = some (mm_val ad st k) := by
  unfold mm_fs
  rw [List.getElem?_map, List.getElem?_range hk]
  rfl
theorem mm_fs_set {ad : Nat → Nat} {st : mm_S} {k : Nat} (hk : k < 63) (h0 : mm_kd k = 0) (v : Int32) : (mm_fs ad st).set k (.int v) = mm_fs ad (mm_sI st k v) := by
  have h := mm_mapset (f := mm_val ad st) (g := mm_val ad (mm_sI st k v)) (q := k) (k := k) (List.getElem?_range hk) List.nodup_range (fun j hj => by
    unfold mm_val mm_sI mm_up
    simp [hj])
  have e : mm_val ad (mm_sI st k v) k = .int v := by
    unfold mm_val mm_sI mm_up
    simp [h0]
  rw [e] at h
  exact h
theorem mm_w_0 {o : Nat} {ad : Nat → Nat} {cs : ClassId × ClassId × ClassId} {st : mm_S} : (mm_w o ad cs st)[0]? = some (o, .inr (14, mm_fs ad st)) := rfl
theorem mm_w_at {o : Nat} {ad : Nat → Nat} {cs : ClassId × ClassId × ClassId} (st : mm_S) {k : Nat} (hk : k ∈ mm_ar) : ∃ q, mm_ar[q]? = some k ∧ (mm_w o ad cs st)[q + 1]? = some (ad k, mm_cell cs st k) := by
  obtain ⟨q, hq⟩ := List.getElem?_of_mem hk
  refine ⟨q, hq, ?_⟩
  show (mm_ar.map (fun k => (ad k, mm_cell cs st k)))[q]? = _
  rw [List.getElem?_map, hq]
  rfl
theorem mm_w_sI {o : Nat} {ad : Nat → Nat} {cs : ClassId × ClassId × ClassId} {st : mm_S} {k : Nat} (hk : k < 63) (h0 : mm_kd k = 0) (v : Int32) : (mm_w o ad cs st).set 0 (o, .inr (14, (mm_fs ad st).set k (.int v))) = mm_w o ad cs (mm_sI st k v) := by
  rw [mm_fs_set hk h0]
  rfl
theorem mm_w_set {o : Nat} {ad : Nat → Nat} {cs : ClassId × ClassId × ClassId} {st st' : mm_S} {k q : Nat} (hq : mm_ar[q]? = some k) (h1 : st'.1 = st.1) (h : ∀ j, j ≠ k → mm_cell cs st' j = mm_cell cs st j) : (mm_w o ad cs st).set (q + 1) (ad k, mm_cell cs st' k) = mm_w o ad cs st' := by
  have e := mm_mapset (f := fun k => (ad k, mm_cell cs st k)) (g := fun k => (ad k, mm_cell cs st' k)) hq mm_ar_nd (fun j hj => by show (ad j, mm_cell cs st' j) = (ad j, mm_cell cs st j); rw [h j hj])
  have ef : mm_fs ad st' = mm_fs ad st := by
    unfold mm_fs
    refine List.map_congr_left fun k _ => ?_
    unfold mm_val
    rw [h1]
  show (o, _) :: (mm_ar.map (fun k => (ad k, mm_cell cs st k))).set q (ad k, mm_cell cs st' k) = mm_w o ad cs st'
  rw [e]
  unfold mm_w
  rw [ef]
theorem mm_cell_G {cs : ClassId × ClassId × ClassId} {st : mm_S} {k i : Nat} {v : Int32} (j : Nat) (h : j ≠ k) : mm_cell cs (mm_sG st k i v) j = mm_cell cs st j := by
  unfold mm_cell mm_sG mm_up
  simp [h]
theorem mm_cell_L {cs : ClassId × ClassId × ClassId} {st : mm_S} {k i : Nat} {v : Int64} (j : Nat) (h : j ≠ k) : mm_cell cs (mm_sL st k i v) j = mm_cell cs st j := by
  unfold mm_cell mm_sL mm_up
  simp [h]
theorem mm_cell_1 {cs : ClassId × ClassId × ClassId} {st : mm_S} {k : Nat} (h : mm_kd k = 1) : mm_cell cs st k = .inl (cs.1, mm_ln k, .inl (st.2.1 k)) := by
  unfold mm_cell
  simp [h]
theorem mm_cell_2 {cs : ClassId × ClassId × ClassId} {st : mm_S} {k : Nat} (h : mm_kd k = 2) : mm_cell cs st k = .inl (cs.2.1, mm_ln k, .inl (st.2.1 k)) := by
  unfold mm_cell
  simp [h]
theorem mm_cell_3 {cs : ClassId × ClassId × ClassId} {st : mm_S} {k : Nat} (h : mm_kd k = 3) : mm_cell cs st k = .inl (cs.2.2, mm_ln k, .inr (.inl (st.2.2 k))) := by
  unfold mm_cell
  simp [h]
theorem mm_T1 : ∀ k, k < 63 → (TX12 k).1 = "EclipsesKeptModel" := by decide +kernel
theorem mm_fin : ∀ k, k < 63 → mm_kd k = 0 → (TX12 k).2.2.2 = false := by decide +kernel
/-! the words that its methods need -/
def mm_fl : List (Nat × Nat) := [(7, 0), (13, 1), (16, 2), (19, 3), (22, 4), (26, 5), (29, 6), (32, 7), (35, 8), (38, 9), (41, 10), (44, 11), (47, 12), (50, 13), (53, 14), (56, 15), (59, 16), (62, 17), (65, 18), (68, 19), (71, 20), (74, 21), (77, 22), (80, 23), (83, 24), (86, 25), (90, 26), (94, 27), (97, 28), (100, 29), (103, 30), (106, 31), (109, 32), (112, 33), (115, 34), (118, 35), (121, 36), (124, 37), (127, 38), (131, 39), (134, 40), (137, 41), (140, 42), (143, 43), (146, 44), (149, 45), (152, 46), (155, 47), (158, 48), (161, 49), (164, 50), (167, 51), (170, 52), (173, 53), (176, 54), (179, 55), (182, 56), (185, 57), (188, 58), (191, 59), (194, 60), (197, 61), (200, 62)]
def mm_ms : List (Nat × MethodName × ByteArray × Nat × Option FieldType) := [(278, yX12_base, cX12_base, 6, some .int), (264, yX12_begin, cX12_begin, 1, some .int), (267, yX12_behind, cX12_behind, 1, some .int), (337, yX12_bestSet, cX12_bestSet, 3, some .int), (331, yX12_bits, cX12_bits, 4, some .int), (346, yX12_body, cX12_body, 2, none), (353, yX12_darkensAct, cX12_darkensAct, 3, some .int), (311, yX12_divisor, cX12_divisor, 11, some .long), (229, yX12_emits, cX12_emits, 2, none), (270, yX12_factOf, cX12_factOf, 5, some .int), (334, yX12_gainBy, cX12_gainBy, 5, some .int), (307, yX12_gainOf, cX12_gainOf, 11, some .long), (261, yX12_goesText, cX12_goesText, 3, some .boolean), (203, yX12_has, cX12_has, 3, some .boolean), (292, yX12_held, cX12_held, 2, some .int), (274, yX12_holds, cX12_holds, 10, some .boolean), (303, yX12_ifServed, cX12_ifServed, 5, some .long), (299, yX12_ifSpared, cX12_ifSpared, 4, some .long), (207, yX12_in, cX12_in, 4, some .boolean), (318, yX12_isAsked, cX12_isAsked, 3, some .boolean), (211, yX12_isDarks, cX12_isDarks, 2, some .boolean), (225, yX12_isDigit, cX12_isDigit, 1, some .boolean), (215, yX12_isNeed, cX12_isNeed, 2, some .boolean), (340, yX12_isSeen, cX12_isSeen, 3, some .boolean), (343, yX12_isTape, cX12_isTape, 2, some .boolean), (315, yX12_isYears, cX12_isYears, 2, some .boolean), (289, yX12_keep, cX12_keep, 3, some .int), (323, yX12_layGains, cX12_layGains, 8, none), (327, yX12_lowest, cX12_lowest, 8, some .long), (371, yX12_narrow, cX12_narrow, 4, some .long), (349, yX12_needDarkens, cX12_needDarkens, 3, some .int), (356, yX12_needPleads, cX12_needPleads, 3, some .int), (365, yX12_needTells, cX12_needTells, 3, some .int), (218, yX12_next, cX12_next, 1, some .int), (233, yX12_place, cX12_place, 2, some .int), (362, yX12_pleadsAct, cX12_pleadsAct, 4, some .int), (246, yX12_settle, cX12_settle, 2, none), (359, yX12_siegePleads, cX12_siegePleads, 3, some .int), (222, yX12_takes, cX12_takes, 2, some .boolean), (258, yX12_takesClause, cX12_takesClause, 2, some .boolean), (255, yX12_takesE, cX12_takesE, 4, some .boolean), (252, yX12_takesHead, cX12_takesHead, 2, some .boolean), (237, yX12_takesNumber, cX12_takesNumber, 2, some .boolean), (243, yX12_takesTest, cX12_takesTest, 3, some .boolean), (249, yX12_takesWord, cX12_takesWord, 4, some .boolean), (368, yX12_tellsAct, cX12_tellsAct, 4, some .int), (295, yX12_ways, cX12_ways, 5, some .long), (240, yX12_whole, cX12_whole, 1, none), (282, yX12_worthOf, cX12_worthOf, 7, some .int)]
def mm_kw : List Cond := [.initialized RX12, .arrayClass .int, .arrayClass .boolean, .arrayClass .long, .constant RX12 285 (999999 : Int32), .constant RX12 286 (-999999 : Int32), .constant RX12 287 (-10000001 : Int32), .constant RX12 288 (-10000002 : Int32), .constantLong RX12 321 (-9223372036854775808 : Int64)]
def mm_fw (q : Nat × Nat) : Cond := .fieldLink RX12 q.1 "EclipsesKeptModel" (TX12 q.2).2.1 (TX12 q.2).2.2.1
def mm_mw (q : Nat × MethodName × ByteArray × Nat × Option FieldType) : List Cond := [.methodLink RX12 q.1 q.2.1, .instanceMethod q.2.1, .selects RX12 q.2.1 q.2.1, .code q.2.1 q.2.2.1 q.2.2.2.1 q.2.2.2.2]
def mm_W : List Cond := wsX120 ++ (mm_fl.map mm_fw ++ (mm_kw ++ mm_ms.flatMap mm_mw))
theorem mm_Wgood : mm_W.all goodWord = true := by decide +kernel
theorem mm_Win : ∀ w ∈ wsX120, w ∈ mm_W := fun _ h => List.mem_append_left _ h
theorem mm_Wf {i k : Nat} (h : (i, k) ∈ mm_fl) : Cond.fieldLink RX12 i "EclipsesKeptModel" (TX12 k).2.1 (TX12 k).2.2.1 ∈ mm_W := List.mem_append_right _ (List.mem_append_left _ (List.mem_map.mpr ⟨(i, k), h, rfl⟩))
theorem mm_Wk {w : Cond} (h : w ∈ mm_kw) : w ∈ mm_W := List.mem_append_right _ (List.mem_append_right _ (List.mem_append_left _ h))
theorem mm_Wm {q : Nat × MethodName × ByteArray × Nat × Option FieldType} (h : q ∈ mm_ms) : ∀ w ∈ mm_mw q, w ∈ mm_W := fun w hw => List.mem_append_right _ (List.mem_append_right _ (List.mem_append_right _ (List.mem_flatMap.mpr ⟨q, h, hw⟩)))
theorem mm_good {i n : Nat} {y : MethodName} {b : ByteArray} {rt : Option FieldType} (h : (i, y, b, n, rt) ∈ mm_ms) : GoodIn mm_W (wsV RX12 i RX12 y (Cond.code y b n rt :: mm_W)) := by
  have hm : ∀ w ∈ wsV RX12 i RX12 y (Cond.code y b n rt :: mm_W), w ∈ mm_W := by
    intro w hw
    rcases List.mem_append.mp hw with h1 | h1
    · rcases List.mem_cons.mp h1 with rfl | h1
      · exact mm_Wm h _ (List.mem_cons_self)
      rcases List.mem_cons.mp h1 with rfl | h1
      · exact mm_Wm h _ (List.mem_cons_of_mem _ List.mem_cons_self)
      rcases List.mem_cons.mp h1 with rfl | h1
      · exact mm_Wm h _ (List.mem_cons_of_mem _ (List.mem_cons_of_mem _ List.mem_cons_self))
      rcases List.mem_cons.mp h1 with rfl | h1
      · exact mm_Wk (List.mem_cons_self)
      · cases h1
    · rcases List.mem_cons.mp h1 with rfl | h1
      · exact mm_Wm h _ (List.mem_cons_of_mem _ (List.mem_cons_of_mem _ (List.mem_cons_of_mem _ List.mem_cons_self)))
      · exact h1
  exact fun w hw => ⟨hm w hw, good_of_word (List.all_eq_true.mp mm_Wgood w (hm w hw))⟩
/-! what holds within a method of it -/
def mm_A (o : Nat) (ad : Nat → Nat) : Nat → Prop := fun q => q = o ∨ ∃ k, k ∈ mm_ar ∧ q = ad k
def mm_C (p : Program) (s : State) (m : MethodId) (args : Array Value) (meth : Method) (c : Code) (cc : ByteArray) (nL : Nat) (ret : Option FieldType) (D : va_G) (cs : ClassId × ClassId × ClassId) : Prop :=
  p.tables.exec = Jvm.exec ∧ c.code = cc ∧ meth.sig.returnType = ret ∧ c.maxLocals = nL ∧ s.vm.findClass RX12 = some m.cls ∧ (∀ w ∈ mm_W, w.before args s = true) ∧ meth.locks = false ∧ va_K D vwCl (mm_tys cs) s
def mm_H (D : va_G) (o : Nat) (ad : Nat → Nat) (cs : ClassId × ClassId × ClassId) (H0 : Heap) (st : mm_S) (H : Heap) (locs : List Loc) : Prop :=
  va_P D vwCl (mm_w o ad cs st) H ∧ va_D (mm_A o ad) (mm_w o ad cs st) ∧ va_S (mm_A o ad) H0 H locs
def mm_U (D : va_G) (o : Nat) (ad : Nat → Nat) (cs : ClassId × ClassId × ClassId) (st : mm_S) (U : State) : Prop :=
  va_P D vwCl (mm_w o ad cs st) U.heap ∧ va_K D vwCl (mm_tys cs) U ∧ va_D (fun _ => True) (mm_w o ad cs st)
abbrev mm_Qi (D : va_G) (o : Nat) (ad : Nat → Nat) (cs : ClassId × ClassId × ClassId) (r : Int32) (st : mm_S) : Array Value → State → Outcome → State → Prop := va_Qi (fun (r' : Int32) (u : mm_S) => r' = r ∧ u = st) (mm_U D o ad cs) (mm_A o ad)
abbrev mm_Ql (D : va_G) (o : Nat) (ad : Nat → Nat) (cs : ClassId × ClassId × ClassId) (r : Int64) (st : mm_S) : Array Value → State → Outcome → State → Prop := va_Ql (fun (r' : Int64) (u : mm_S) => r' = r ∧ u = st) (mm_U D o ad cs) (mm_A o ad)
abbrev mm_Qv (D : va_G) (o : Nat) (ad : Nat → Nat) (cs : ClassId × ClassId × ClassId) (st : mm_S) : Array Value → State → Outcome → State → Prop := va_Qv (fun (u : mm_S) => u = st) (mm_U D o ad cs) (mm_A o ad)
abbrev mm_R (fr lo : Nat) : Room := { frames := fr, cells := 0, slots := 0, locals := lo }
def mm_Mi (l : Launch) (D : va_G) (o : Nat) (ad : Nat → Nat) (cs : ClassId × ClassId × ClassId) (y : MethodName) (bytes : ByteArray) (maxL : Nat) (rt : Option FieldType) (fr lo : Nat) (As : List Value) (st : mm_S) (x : Option (Int32 × mm_S)) : Prop :=
  ∀ r st', x = some (r, st') → Met l y (Cond.code y bytes maxL rt :: mm_W) (mm_R fr lo) (va_Pc (.ref o :: As) (mm_U D o ad cs st)) (mm_Qi D o ad cs r st') 0 0 (mm_A o ad)
def mm_Ml (l : Launch) (D : va_G) (o : Nat) (ad : Nat → Nat) (cs : ClassId × ClassId × ClassId) (y : MethodName) (bytes : ByteArray) (maxL : Nat) (rt : Option FieldType) (fr lo : Nat) (As : List Value) (st : mm_S) (x : Option (Int64 × mm_S)) : Prop :=
  ∀ r st', x = some (r, st') → Met l y (Cond.code y bytes maxL rt :: mm_W) (mm_R fr lo) (va_Pc (.ref o :: As) (mm_U D o ad cs st)) (mm_Ql D o ad cs r st') 0 0 (mm_A o ad)
def mm_Mv (l : Launch) (D : va_G) (o : Nat) (ad : Nat → Nat) (cs : ClassId × ClassId × ClassId) (y : MethodName) (bytes : ByteArray) (maxL : Nat) (rt : Option FieldType) (fr lo : Nat) (As : List Value) (st : mm_S) (x : Option mm_S) : Prop :=
  ∀ st', x = some st' → Met l y (Cond.code y bytes maxL rt :: mm_W) (mm_R fr lo) (va_Pc (.ref o :: As) (mm_U D o ad cs st)) (mm_Qv D o ad cs st') 0 0 (mm_A o ad)
theorem mm_D_A {o : Nat} {ad : Nat → Nat} {cs : ClassId × ClassId × ClassId} {st : mm_S} {B : Nat → Prop} (h : va_D B (mm_w o ad cs st)) : va_D (mm_A o ad) (mm_w o ad cs st) := by
  refine ⟨h.1, fun k q hq => ?_⟩
  rcases List.mem_cons.mp (List.mem_of_getElem? hq) with e | e
  · rw [e]; exact Or.inl rfl
  · obtain ⟨k, hk, e⟩ := List.mem_map.mp e
    rw [← e]
    exact Or.inr ⟨k, hk, rfl⟩
section MM
variable {p : Program} {l : Launch} {e : Env} {R : Room} {s : State} {m : MethodId} {args : Array Value} {below : List Frame} {meth : Method} {c : Code} {H H0 : Heap} {locs : List Loc} {cells slots : Nat} {Q : State → Prop}
variable {cc : ByteArray} {nL : Nat} {ret : Option FieldType} {pc : Nat} {ls : Array Slot} {rest : List Value} {D : va_G} {o : Nat} {ad : Nat → Nat} {cs : ClassId × ClassId × ClassId} {st : mm_S}
theorem mm_gI (C : mm_C p s m args meth c cc nL ret D cs) (hM : mm_H D o ad cs H0 st H locs) (k : Nat) {index : Nat} (hdg : decode cc pc = .ok (.getfield index, 3)) (hk : k < 63) (h0 : mm_kd k = 0) (hl : (index, k) ∈ mm_fl)
    (kk : W p l e R s m args below meth c H locs cells slots Q (F0 m (pc + 3) ls (.int (mm_I st k) :: rest))) : W p l e R s m args below meth c H locs cells slots Q (F0 m pc ls (.ref o :: rest)) := by
  obtain ⟨hx, hb, -, -, hown, hts, -, hK⟩ := C
  have hv : (mm_fs ad st)[k]? = some (.int (mm_I st k)) := by
    rw [mm_fs_get hk]
    unfold mm_val mm_I
    rw [if_pos h0]
  exact va_get (C := RX12) (T := TX12) (N := 63) (ci := 14) hx hb hts mm_Win hown hK hM.1 0 mm_w_0 rfl k hk (hts _ (mm_Wf hl)) (fun x h => by rw [mm_T1 k hk] at h; exact h) hv hdg kk
theorem mm_gA (C : mm_C p s m args meth c cc nL ret D cs) (hM : mm_H D o ad cs H0 st H locs) (k : Nat) {index : Nat} (hdg : decode cc pc = .ok (.getfield index, 3)) (hk : k < 63) (h0 : ¬ mm_kd k = 0) (hl : (index, k) ∈ mm_fl)
    (kk : W p l e R s m args below meth c H locs cells slots Q (F0 m (pc + 3) ls (.ref (ad k) :: rest))) : W p l e R s m args below meth c H locs cells slots Q (F0 m pc ls (.ref o :: rest)) := by
  obtain ⟨hx, hb, -, -, hown, hts, -, hK⟩ := C
  have hv : (mm_fs ad st)[k]? = some (.ref (ad k)) := by
    rw [mm_fs_get hk]
    unfold mm_val
    rw [if_neg h0]
  exact va_get (C := RX12) (T := TX12) (N := 63) (ci := 14) hx hb hts mm_Win hown hK hM.1 0 mm_w_0 rfl k hk (hts _ (mm_Wf hl)) (fun x h => by rw [mm_T1 k hk] at h; exact h) hv hdg kk
theorem mm_pI (C : mm_C p s m args meth c cc nL ret D cs) (hM : mm_H D o ad cs H0 st H locs) (k : Nat) {index : Nat} {v : Int32} (hdg : decode cc pc = .ok (.putfield index, 3)) (hk : k < 63) (h0 : mm_kd k = 0) (hl : (index, k) ∈ mm_fl) (hn : narrow (tyX12 k) (.int v) = .int v) (hf : fits (tyX12 k) (.int v) = true)
    (kk : ∀ (st1 : mm_S) (H1 : Heap) (locs1 : List Loc), st1 = mm_sI st k v → mm_H D o ad cs H0 st1 H1 locs1 → W p l e R s m args below meth c H1 locs1 cells slots Q (F0 m (pc + 3) ls rest)) : W p l e R s m args below meth c H locs cells slots Q (F0 m pc ls (.int v :: .ref o :: rest)) := by
  obtain ⟨hx, hb, -, -, hown, hts, -, hK⟩ := C
  refine va_put (C := RX12) (T := TX12) (N := 63) (ci := 14) hx hb hts mm_Win tyX12 tyX12_ok nmX12 hown hK hM.1 hM.2.1 hM.2.2 0 mm_w_0 rfl k hk (hts _ (mm_Wf hl)) (fun x h => by rw [mm_T1 k hk] at h; exact h) (mm_fin k hk h0) (tyX12_ok k hk) hn hf (by unfold mm_fs; rw [List.length_map, List.length_range]; exact hk) hdg (fun H1 locs1 hP hD hS => ?_)
  rw [mm_w_sI hk h0] at hP hD
  exact kk _ H1 locs1 rfl ⟨hP, hD, hS⟩
theorem mm_iald (C : mm_C p s m args meth c cc nL ret D cs) (hM : mm_H D o ad cs H0 st H locs) (k : Nat) {i : Int32} (hdg : decode cc pc = .ok (.iaload, 1)) (hk : k ∈ mm_ar) (h1 : mm_kd k = 1) (hin : vp_in i (mm_ln k))
    (kk : W p l e R s m args below meth c H locs cells slots Q (F0 m (pc + 1) ls (.int (mm_G st k i.toNatClampNeg) :: rest))) : W p l e R s m args below meth c H locs cells slots Q (F0 m pc ls (.int i :: .ref (ad k) :: rest)) := by
  obtain ⟨q, hq, ha⟩ := mm_w_at (o := o) (ad := ad) (cs := cs) st hk
  rw [mm_cell_1 h1] at ha
  exact va_iald C.1 C.2.1 C.2.2.2.2.2.2.2 hM.1 (q + 1) 0 ha rfl hin hdg kk
theorem mm_zald (C : mm_C p s m args meth c cc nL ret D cs) (hM : mm_H D o ad cs H0 st H locs) (k : Nat) {i : Int32} (hdg : decode cc pc = .ok (.baload, 1)) (hk : k ∈ mm_ar) (h1 : mm_kd k = 2) (hin : vp_in i (mm_ln k))
    (kk : W p l e R s m args below meth c H locs cells slots Q (F0 m (pc + 1) ls (.int (mm_G st k i.toNatClampNeg) :: rest))) : W p l e R s m args below meth c H locs cells slots Q (F0 m pc ls (.int i :: .ref (ad k) :: rest)) := by
  obtain ⟨q, hq, ha⟩ := mm_w_at (o := o) (ad := ad) (cs := cs) st hk
  rw [mm_cell_2 h1] at ha
  exact va_zald C.1 C.2.1 C.2.2.2.2.2.2.2 hM.1 (q + 1) 1 ha rfl hin hdg kk
theorem mm_lald (C : mm_C p s m args meth c cc nL ret D cs) (hM : mm_H D o ad cs H0 st H locs) (k : Nat) {i : Int32} (hdg : decode cc pc = .ok (.laload, 1)) (hk : k ∈ mm_ar) (h1 : mm_kd k = 3) (hin : vp_in i (mm_ln k))
    (kk : W p l e R s m args below meth c H locs cells slots Q (F0 m (pc + 1) ls (.long (mm_L st k i.toNatClampNeg) :: rest))) : W p l e R s m args below meth c H locs cells slots Q (F0 m pc ls (.int i :: .ref (ad k) :: rest)) := by
  obtain ⟨q, hq, ha⟩ := mm_w_at (o := o) (ad := ad) (cs := cs) st hk
  rw [mm_cell_3 h1] at ha
  exact va_lald C.1 C.2.1 C.2.2.2.2.2.2.2 hM.1 (q + 1) 2 ha rfl hin hdg kk
theorem mm_iast (C : mm_C p s m args meth c cc nL ret D cs) (hM : mm_H D o ad cs H0 st H locs) (k : Nat) {i v : Int32} (hdg : decode cc pc = .ok (.iastore, 1)) (hk : k ∈ mm_ar) (h1 : mm_kd k = 1) (hin : vp_in i (mm_ln k))
    (kk : ∀ (st1 : mm_S) (H1 : Heap) (locs1 : List Loc), st1 = mm_sG st k i.toNatClampNeg v → mm_H D o ad cs H0 st1 H1 locs1 → W p l e R s m args below meth c H1 locs1 cells slots Q (F0 m (pc + 1) ls rest)) : W p l e R s m args below meth c H locs cells slots Q (F0 m pc ls (.int v :: .int i :: .ref (ad k) :: rest)) := by
  obtain ⟨q, hq, ha⟩ := mm_w_at (o := o) (ad := ad) (cs := cs) st hk
  rw [mm_cell_1 h1] at ha
  refine va_iast C.1 C.2.1 C.2.2.2.2.2.2.2 hM.1 hM.2.1 hM.2.2 (q + 1) 0 ha rfl hin hdg (fun H1 locs1 hP hD hS => ?_)
  have e : (mm_w o ad cs st).set (q + 1) (ad k, .inl (cs.1, mm_ln k, .inl (upd (st.2.1 k) i.toNatClampNeg v))) = mm_w o ad cs (mm_sG st k i.toNatClampNeg v) := by
    have h2 := mm_w_set (o := o) (ad := ad) (cs := cs) (st := st) (st' := mm_sG st k i.toNatClampNeg v) hq rfl (fun j hj => mm_cell_G j hj)
    rw [mm_cell_1 h1] at h2
    rw [← h2]
    unfold mm_sG mm_up
    simp
  rw [e] at hP hD
  exact kk _ H1 locs1 rfl ⟨hP, hD, hS⟩
theorem mm_zast (C : mm_C p s m args meth c cc nL ret D cs) (hM : mm_H D o ad cs H0 st H locs) (k : Nat) {i v : Int32} (hdg : decode cc pc = .ok (.bastore, 1)) (hk : k ∈ mm_ar) (h1 : mm_kd k = 2) (hin : vp_in i (mm_ln k))
    (kk : ∀ (st1 : mm_S) (H1 : Heap) (locs1 : List Loc), st1 = mm_sG st k i.toNatClampNeg (vp_nar .boolean v) → mm_H D o ad cs H0 st1 H1 locs1 → W p l e R s m args below meth c H1 locs1 cells slots Q (F0 m (pc + 1) ls rest)) : W p l e R s m args below meth c H locs cells slots Q (F0 m pc ls (.int v :: .int i :: .ref (ad k) :: rest)) := by
  obtain ⟨q, hq, ha⟩ := mm_w_at (o := o) (ad := ad) (cs := cs) st hk
  rw [mm_cell_2 h1] at ha
  refine va_zast C.1 C.2.1 C.2.2.2.2.2.2.2 hM.1 hM.2.1 hM.2.2 (q + 1) 1 ha rfl hin hdg (fun H1 locs1 hP hD hS => ?_)
  have e : (mm_w o ad cs st).set (q + 1) (ad k, .inl (cs.2.1, mm_ln k, .inl (upd (st.2.1 k) i.toNatClampNeg (vp_nar .boolean v)))) = mm_w o ad cs (mm_sG st k i.toNatClampNeg (vp_nar .boolean v)) := by
    have h2 := mm_w_set (o := o) (ad := ad) (cs := cs) (st := st) (st' := mm_sG st k i.toNatClampNeg (vp_nar .boolean v)) hq rfl (fun j hj => mm_cell_G j hj)
    rw [mm_cell_2 h1] at h2
    rw [← h2]
    unfold mm_sG mm_up
    simp
  rw [e] at hP hD
  exact kk _ H1 locs1 rfl ⟨hP, hD, hS⟩
theorem mm_last (C : mm_C p s m args meth c cc nL ret D cs) (hM : mm_H D o ad cs H0 st H locs) (k : Nat) {i : Int32} {v : Int64} (hdg : decode cc pc = .ok (.lastore, 1)) (hk : k ∈ mm_ar) (h1 : mm_kd k = 3) (hin : vp_in i (mm_ln k))
    (kk : ∀ (st1 : mm_S) (H1 : Heap) (locs1 : List Loc), st1 = mm_sL st k i.toNatClampNeg v → mm_H D o ad cs H0 st1 H1 locs1 → W p l e R s m args below meth c H1 locs1 cells slots Q (F0 m (pc + 1) ls rest)) : W p l e R s m args below meth c H locs cells slots Q (F0 m pc ls (.long v :: .int i :: .ref (ad k) :: rest)) := by
  obtain ⟨q, hq, ha⟩ := mm_w_at (o := o) (ad := ad) (cs := cs) st hk
  rw [mm_cell_3 h1] at ha
  refine va_last C.1 C.2.1 C.2.2.2.2.2.2.2 hM.1 hM.2.1 hM.2.2 (q + 1) 2 ha rfl hin hdg (fun H1 locs1 hP hD hS => ?_)
  have e : (mm_w o ad cs st).set (q + 1) (ad k, .inl (cs.2.2, mm_ln k, .inr (.inl (vp_updL (st.2.2 k) i.toNatClampNeg v)))) = mm_w o ad cs (mm_sL st k i.toNatClampNeg v) := by
    have h2 := mm_w_set (o := o) (ad := ad) (cs := cs) (st := st) (st' := mm_sL st k i.toNatClampNeg v) hq rfl (fun j hj => mm_cell_L j hj)
    rw [mm_cell_3 h1] at h2
    rw [← h2]
    unfold mm_sL mm_up
    simp
  rw [e] at hP hD
  exact kk _ H1 locs1 rfl ⟨hP, hD, hS⟩
/-! calls of its own methods -/
theorem mm_pre (C : mm_C p s m args meth c cc nL ret D cs) (hM : mm_H D o ad cs H0 st H locs) (As : List Value) : PreV s H RX12 o (va_Pc (.ref o :: As) (mm_U D o ad cs st)) As := by
  have hK := C.2.2.2.2.2.2.2
  exact ⟨fun a U g mk q => ⟨q.1, q.2.1, va_K.moved (u := U) (U := U.calling g mk a) (Vm.Alike.refl U.vm) q.2.2.1, q.2.2.2⟩, va_recv hK hM.1 (q := (RX12, TX12, 63)) (ci := 14) (q0 := 0) rfl mm_w_0, fun U hU hW => ⟨rfl, by rw [hU]; exact hM.1, va_K.moved hW.alike hK, hM.2.1.weaken (fun _ _ _ _ => trivial)⟩⟩
theorem mm_ci {y : MethodName} {fr lo : Nat} {As : List Value} {x : Option (Int32 × mm_S)} {bytes : ByteArray} {maxL index n : Nat} {rt : Option FieldType} {r : Int32} {st1 : mm_S} {stk : List Value} (C : mm_C p s m args meth c cc nL ret D cs) (hM : mm_H D o ad cs H0 st H locs) (hc : mm_Mi l D o ad cs y bytes maxL rt fr lo As st x) (hg : (index, y, bytes, maxL, rt) ∈ mm_ms) (hdg : decode cc pc = .ok (.invokevirtual index, 3)) (hx : x = some (r, st1)) (hsz : ls.size = nL)
    (hd : y.cls = RX12 ∧ y.cls ≠ "java/lang/invoke/MethodHandle" ∧ y.cls ≠ "java/lang/invoke/VarHandle" ∧ (parseMethodDescriptor y.desc).map (fun d => d.parameters.length) = some n) (hR : fr + 1 ≤ R.frames ∧ 8 + (maxL + 11) + lo ≤ R.locals) (hn : As.length = n) (hst : stk = As.reverse ++ .ref o :: rest) (hW : (rest.map fun v => v.category).sum ≤ 8) (hR2 : cells ≤ R.cells ∧ slots ≤ R.slots)
    (kk : ∀ (H1 : Heap) (locs1 : List Loc), mm_H D o ad cs H0 st1 H1 locs1 → W p l e R s m args below meth c H1 locs1 cells slots Q (F0 m (pc + 3) ls (.int r :: rest))) : W p l e R s m args below meth c H locs cells slots Q (F0 m pc ls stk) := by
  obtain ⟨hx0, hb, -, hml, hown, hts, -, hK⟩ := id C
  refine va_calli (A1 := mm_A o ad) (mc := 0) (ms := 0) (va_runV (As := As) (rest := rest) ⟨hx0, hb, hml, hown, hts⟩ (hc r st1 hx) (cwV n hts (mm_good hg) rfl rfl rfl hd hR) (mm_pre C hM As) rfl hn hsz hst (lv_room hW) hdg hR2) hM.2.2 (fun _ _ h => h) (fun _ h => h) (fun r' u t H1 locs1 ht hvm hw hB _ _ hS => ?_)
  obtain ⟨rfl, rfl⟩ := hw
  rw [mm_U, ht] at hB
  exact kk H1 locs1 ⟨hB.1, mm_D_A hB.2.2, hS⟩
theorem mm_cl {y : MethodName} {fr lo : Nat} {As : List Value} {x : Option (Int64 × mm_S)} {bytes : ByteArray} {maxL index n : Nat} {rt : Option FieldType} {r : Int64} {st1 : mm_S} {stk : List Value} (C : mm_C p s m args meth c cc nL ret D cs) (hM : mm_H D o ad cs H0 st H locs) (hc : mm_Ml l D o ad cs y bytes maxL rt fr lo As st x) (hg : (index, y, bytes, maxL, rt) ∈ mm_ms) (hdg : decode cc pc = .ok (.invokevirtual index, 3)) (hx : x = some (r, st1)) (hsz : ls.size = nL)
    (hd : y.cls = RX12 ∧ y.cls ≠ "java/lang/invoke/MethodHandle" ∧ y.cls ≠ "java/lang/invoke/VarHandle" ∧ (parseMethodDescriptor y.desc).map (fun d => d.parameters.length) = some n) (hR : fr + 1 ≤ R.frames ∧ 8 + (maxL + 11) + lo ≤ R.locals) (hn : As.length = n) (hst : stk = As.reverse ++ .ref o :: rest) (hW : (rest.map fun v => v.category).sum ≤ 8) (hR2 : cells ≤ R.cells ∧ slots ≤ R.slots)
    (kk : ∀ (H1 : Heap) (locs1 : List Loc), mm_H D o ad cs H0 st1 H1 locs1 → W p l e R s m args below meth c H1 locs1 cells slots Q (F0 m (pc + 3) ls (.long r :: rest))) : W p l e R s m args below meth c H locs cells slots Q (F0 m pc ls stk) := by
  obtain ⟨hx0, hb, -, hml, hown, hts, -, hK⟩ := id C
  refine va_calll (A1 := mm_A o ad) (mc := 0) (ms := 0) (va_runV (As := As) (rest := rest) ⟨hx0, hb, hml, hown, hts⟩ (hc r st1 hx) (cwV n hts (mm_good hg) rfl rfl rfl hd hR) (mm_pre C hM As) rfl hn hsz hst (lv_room hW) hdg hR2) hM.2.2 (fun _ _ h => h) (fun _ h => h) (fun r' u t H1 locs1 ht hvm hw hB _ _ hS => ?_)
  obtain ⟨rfl, rfl⟩ := hw
  rw [mm_U, ht] at hB
  exact kk H1 locs1 ⟨hB.1, mm_D_A hB.2.2, hS⟩
theorem mm_cv {y : MethodName} {fr lo : Nat} {As : List Value} {x : Option mm_S} {bytes : ByteArray} {maxL index n : Nat} {rt : Option FieldType} {st1 : mm_S} {stk : List Value} (C : mm_C p s m args meth c cc nL ret D cs) (hM : mm_H D o ad cs H0 st H locs) (hc : mm_Mv l D o ad cs y bytes maxL rt fr lo As st x) (hg : (index, y, bytes, maxL, rt) ∈ mm_ms) (hdg : decode cc pc = .ok (.invokevirtual index, 3)) (hx : x = some st1) (hsz : ls.size = nL)
    (hd : y.cls = RX12 ∧ y.cls ≠ "java/lang/invoke/MethodHandle" ∧ y.cls ≠ "java/lang/invoke/VarHandle" ∧ (parseMethodDescriptor y.desc).map (fun d => d.parameters.length) = some n) (hR : fr + 1 ≤ R.frames ∧ 8 + (maxL + 11) + lo ≤ R.locals) (hn : As.length = n) (hst : stk = As.reverse ++ .ref o :: rest) (hW : (rest.map fun v => v.category).sum ≤ 8) (hR2 : cells ≤ R.cells ∧ slots ≤ R.slots)
    (kk : ∀ (H1 : Heap) (locs1 : List Loc), mm_H D o ad cs H0 st1 H1 locs1 → W p l e R s m args below meth c H1 locs1 cells slots Q (F0 m (pc + 3) ls rest)) : W p l e R s m args below meth c H locs cells slots Q (F0 m pc ls stk) := by
  obtain ⟨hx0, hb, -, hml, hown, hts, -, hK⟩ := id C
  refine va_callv (A1 := mm_A o ad) (mc := 0) (ms := 0) (va_runV (As := As) (rest := rest) ⟨hx0, hb, hml, hown, hts⟩ (hc st1 hx) (cwV n hts (mm_good hg) rfl rfl rfl hd hR) (mm_pre C hM As) rfl hn hsz hst (lv_room hW) hdg hR2) hM.2.2 (fun _ _ h => h) (fun _ h => h) (fun u t H1 locs1 ht hvm hw hB _ _ hS => ?_)
  obtain rfl := hw
  rw [mm_U, ht] at hB
  exact kk H1 locs1 ⟨hB.1, mm_D_A hB.2.2, hS⟩
/-! ends -/
theorem mm_ri {v r : Int32} {st' : mm_S} (C : mm_C p s m args meth c cc nL (some .int) D cs) (hM : mm_H D o ad cs s.heap st H locs) (hdg : decode cc pc = .ok (.ireturn, 1)) (hf : some (v, st) = some (r, st')) : W p l e R s m args below meth c H locs cells slots (MQ below (mm_Qi D o ad cs r st') args s cells slots (mm_A o ad)) (F0 m pc ls [.int v]) := by
  obtain ⟨rfl, rfl⟩ := fc_of_r hf
  obtain ⟨hx0, hb, hr, hml, hown, hts, hlk, hK⟩ := C
  exact W.iret (v := v) hx0 hb hr (fun t ht hW => ⟨⟨v, st, rfl, ⟨rfl, rfl⟩, by rw [mm_U, ht]; exact ⟨hM.1, va_K.moved hW.alike hK, hM.2.1.weaken (fun _ _ _ _ => trivial)⟩⟩, hM.2.2.F ht⟩) hM.2.2.2.2 hdg hlk
theorem mm_rz {v r : Int32} {st' : mm_S} (C : mm_C p s m args meth c cc nL (some .boolean) D cs) (hM : mm_H D o ad cs s.heap st H locs) (hdg : decode cc pc = .ok (.ireturn, 1)) (hn : narrow .boolean (.int v) = .int v) (hf : some (v, st) = some (r, st')) : W p l e R s m args below meth c H locs cells slots (MQ below (mm_Qi D o ad cs r st') args s cells slots (mm_A o ad)) (F0 m pc ls [.int v]) := by
  obtain ⟨rfl, rfl⟩ := fc_of_r hf
  obtain ⟨hx0, hb, hr, hml, hown, hts, hlk, hK⟩ := C
  exact W.zret (v := v) hx0 hb hr hn (fun t ht hW => ⟨⟨v, st, rfl, ⟨rfl, rfl⟩, by rw [mm_U, ht]; exact ⟨hM.1, va_K.moved hW.alike hK, hM.2.1.weaken (fun _ _ _ _ => trivial)⟩⟩, hM.2.2.F ht⟩) hM.2.2.2.2 hdg hlk
theorem mm_rl {v r : Int64} {st' : mm_S} (C : mm_C p s m args meth c cc nL (some .long) D cs) (hM : mm_H D o ad cs s.heap st H locs) (hdg : decode cc pc = .ok (.lreturn, 1)) (hf : some (v, st) = some (r, st')) : W p l e R s m args below meth c H locs cells slots (MQ below (mm_Ql D o ad cs r st') args s cells slots (mm_A o ad)) (F0 m pc ls [.long v]) := by
  obtain ⟨rfl, rfl⟩ := fc_of_r hf
  obtain ⟨hx0, hb, hr, hml, hown, hts, hlk, hK⟩ := C
  exact W.lret (v := v) hx0 hb hr (fun t ht hW => ⟨⟨v, st, rfl, ⟨rfl, rfl⟩, by rw [mm_U, ht]; exact ⟨hM.1, va_K.moved hW.alike hK, hM.2.1.weaken (fun _ _ _ _ => trivial)⟩⟩, hM.2.2.F ht⟩) hM.2.2.2.2 hdg hlk
theorem mm_rv {st' : mm_S} (C : mm_C p s m args meth c cc nL none D cs) (hM : mm_H D o ad cs s.heap st H locs) (hdg : decode cc pc = .ok (.return_, 1)) (hf : some st = some st') : W p l e R s m args below meth c H locs cells slots (MQ below (mm_Qv D o ad cs st') args s cells slots (mm_A o ad)) (F0 m pc ls []) := by
  obtain rfl := fc_of_v hf
  obtain ⟨hx0, hb, hr, hml, hown, hts, hlk, hK⟩ := C
  exact W.vret hx0 hb hr (fun t ht hW => ⟨⟨st, rfl, rfl, by rw [mm_U, ht]; exact ⟨hM.1, va_K.moved hW.alike hK, hM.2.1.weaken (fun _ _ _ _ => trivial)⟩⟩, hM.2.2.F ht⟩) hM.2.2.2.2 hdg hlk
end MM
/-! starts -/
theorem mm_enter {l : Launch} {D : va_G} {o : Nat} {ad : Nat → Nat} {cs : ClassId × ClassId × ClassId} {y : MethodName} {fr lo : Nat} {As : List Value} {st : mm_S} {cc : ByteArray} {nL : Nat} {ret : Option FieldType} {Qc : Array Value → State → Outcome → State → Prop} (hy : plainName y.cls = true) (hcl : y.cls = RX12) (hn : (lg_sl (.ref o :: As)).length ≤ nL)
    (body : ∀ p e s m args below meth c ls, mm_C p s m args meth c cc nL ret D cs → lv_has ls nL (lv_args 0 (.ref o :: As)) → mm_H D o ad cs s.heap st s.heap [] → W p l e (mm_R fr lo) s m args below meth c s.heap [] 0 0 (MQ below Qc args s 0 0 (mm_A o ad)) (F0 m 0 ls [])) : Met l y (Cond.code y cc nL ret :: mm_W) (mm_R fr lo) (va_Pc (.ref o :: As) (mm_U D o ad cs st)) Qc 0 0 (mm_A o ad) := by
  refine Met.ofW (cc := cc) (maxL := nL) (ret := ret) hy rfl ?_
  intro p e s m args below meth c s₁ B hml hv
  obtain ⟨rfl, hP, hK, hD⟩ := hv
  have hl := lv_entry (.ref o :: As) hn
  rw [lg_entry_eq]
  generalize (lg_sl (.ref o :: As) ++ List.replicate (nL - (lg_sl (.ref o :: As)).length) Slot.unset).toArray = ls at hl ⊢
  exact body p e s m _ below meth c ls ⟨B.exec, B.bytes, B.returns, hml, by rw [← hcl]; exact findClass_of_methodNamed B.named, fun w hw => atoms_spec (ws := Cond.code y cc nL ret :: mm_W) B.pre w (List.mem_cons_of_mem _ hw), B.notSynchronized, hK⟩ hl ⟨hP, mm_D_A hD, va_S.rf⟩
end
section
/-! in -/
def M_in (fu : Nat) (x1 : Int32) (x2 : Int32) (x3 : Int32) (st : mm_S) : Option (Int32 × mm_S) :=
  if x1 < x2 then (
  some ((0 : Int32), st))
  else (
  if x3 < x1 then (
  some ((0 : Int32), st))
  else (
  some ((1 : Int32), st)))
/-! has -/
def M_has (fu : Nat) (x1 : Int32) (x2 : Int32) (st : mm_S) : Option (Int32 × mm_S) :=
  if ((x1 >>> (x2 &&& 31)) &&& (1 : Int32)) = (1 : Int32) then (
  some ((1 : Int32), st))
  else (
  some ((0 : Int32), st))
/-! bits -/
def M_bits_b25 (fu : Nat) (K4 : Int32 → Int32 → Int32 → mm_S → Option (Int32 × mm_S)) (x1 : Int32) (x3 : Int32) (s0 : Int32) (s1 : Int32) (st : mm_S) : Option (Int32 × mm_S) :=
  fc_nm (s1 + s0) fun x6 =>
  fc_nm (x3 + (1 : Int32)) fun x7 =>
  K4 x1 x6 x7 st
def M_bits_b4F (fu : Nat) (K4 : Int32 → Int32 → Int32 → mm_S → Option (Int32 × mm_S)) (x1 : Int32) (x2 : Int32) (x3 : Int32) (st : mm_S) : Option (Int32 × mm_S) :=
  if (8 : Int32) ≤ x3 then (
  some (x2, st))
  else (
  fc_bn (M_has fu x1 x3 st) fun r4 st2 =>
  if r4 = 0 then (
  M_bits_b25 fu K4 x1 x3 (0 : Int32) x2 st2)
  else (
  M_bits_b25 fu K4 x1 x3 (1 : Int32) x2 st2))
def M_bits_b4 (fu : Nat) (n : Nat) (x1 : Int32) (x2 : Int32) (x3 : Int32) (st : mm_S) : Option (Int32 × mm_S) :=
  fc_lp (fun (K : Int32 × Int32 × Int32 × mm_S → Option (Int32 × mm_S)) a => M_bits_b4F fu (fun x1 x2 x3 st => K (x1, x2, x3, st)) a.1 a.2.1 a.2.2.1 a.2.2.2) n (x1, x2, x3, st)
def M_bits (fu : Nat) (x1 : Int32) (st : mm_S) : Option (Int32 × mm_S) :=
  M_bits_b4 fu fu x1 (0 : Int32) (0 : Int32) st
/-! isNeed -/
def M_isNeed (fu : Nat) (x1 : Int32) (st : mm_S) : Option (Int32 × mm_S) :=
  fc_bn (M_in fu x1 (0 : Int32) ((mm_I st 0) - (1 : Int32)) st) fun r3 st1 =>
  fc_gd (fc_zb r3) <|
  some (r3, st1)
/-! isDarks -/
def M_isDarks (fu : Nat) (x1 : Int32) (st : mm_S) : Option (Int32 × mm_S) :=
  fc_bn (M_in fu x1 (0 : Int32) (8 : Int32) st) fun r3 st1 =>
  fc_gd (fc_zb r3) <|
  some (r3, st1)
/-! need -/
def M_need_b71F (fu : Nat) (K71 : Int32 → mm_S → Option (Int32 × mm_S)) (x3 : Int32) (st : mm_S) : Option (Int32 × mm_S) :=
  if (4 : Int32) ≤ x3 then (
  fc_nm (mm_sI st 0 ((mm_I st 0) + (1 : Int32))) fun st17 =>
  some (((mm_I st17 0) - (1 : Int32)), st17))
  else (
  fc_gd (fc_ix (((4 : Int32) * (mm_I st 0)) + x3) 24) <|
  fc_nm (mm_sG st 7 (((4 : Int32) * (mm_I st 0)) + x3).toNatClampNeg (0 : Int32)) fun st19 =>
  fc_nm (x3 + (1 : Int32)) fun x20 =>
  K71 x20 st19)
def M_need_b71 (fu : Nat) (n : Nat) (x3 : Int32) (st : mm_S) : Option (Int32 × mm_S) :=
  fc_lp (fun (K : Int32 × mm_S → Option (Int32 × mm_S)) a => M_need_b71F fu (fun x3 st => K (x3, st)) a.1 a.2) n (x3, st)
def M_need (fu : Nat) (x1 : Int32) (x2 : Int32) (st : mm_S) : Option (Int32 × mm_S) :=
  fc_bn (M_in fu x1 (0 : Int32) (6 : Int32) st) fun r3 st1 =>
  if r3 = 0 then (
  some ((-1 : Int32), st1))
  else (
  fc_bn (M_in fu x2 (0 : Int32) (9 : Int32) st1) fun r7 st5 =>
  if r7 = 0 then (
  some ((-2 : Int32), st5))
  else (
  if (mm_I st5 0) = (6 : Int32) then (
  some ((-4 : Int32), st5))
  else (
  fc_gd (fc_ix (mm_I st5 0) 6) <|
  fc_nm (mm_sG st5 4 (mm_I st5 0).toNatClampNeg x1) fun st11 =>
  fc_gd (fc_ix (mm_I st11 0) 6) <|
  fc_nm (mm_sG st11 5 (mm_I st11 0).toNatClampNeg x2) fun st13 =>
  fc_gd (fc_ix (mm_I st13 0) 6) <|
  fc_nm (mm_sG st13 6 (mm_I st13 0).toNatClampNeg (0 : Int32)) fun st15 =>
  M_need_b71 fu fu (0 : Int32) st15)))
/-! darks -/
def M_darks (fu : Nat) (x1 : Int32) (st : mm_S) : Option (Int32 × mm_S) :=
  fc_bn (M_isDarks fu x1 st) fun r3 st1 =>
  if r3 = 0 then (
  some ((-2 : Int32), st1))
  else (
  fc_nm (mm_I st1 1) fun x5 =>
  fc_nm (mm_sI st1 1 x1) fun st6 =>
  some (x5, st6))
/-! row -/
def M_row (fu : Nat) (x1 : Int32) (x2 : Int32) (x3 : Int32) (st : mm_S) : Option (Int32 × mm_S) :=
  fc_bn (M_isNeed fu x1 st) fun r3 st1 =>
  if r3 = 0 then (
  some ((-1 : Int32), st1))
  else (
  fc_bn (M_in fu x2 (0 : Int32) (3 : Int32) st1) fun r7 st5 =>
  if r7 = 0 then (
  some ((-1 : Int32), st5))
  else (
  fc_bn (M_in fu x3 (0 : Int32) (9 : Int32) st5) fun r11 st9 =>
  if r11 = 0 then (
  some ((-2 : Int32), st9))
  else (
  fc_gd (fc_ix x1 6) <|
  if (mm_G st9 4 x1.toNatClampNeg) = (6 : Int32) then (
  fc_gd (fc_ix (((4 : Int32) * x1) + x2) 24) <|
  fc_nm (mm_G st9 7 (((4 : Int32) * x1) + x2).toNatClampNeg) fun x16 =>
  fc_gd (fc_ix (((4 : Int32) * x1) + x2) 24) <|
  fc_nm (mm_sG st9 7 (((4 : Int32) * x1) + x2).toNatClampNeg x3) fun st18 =>
  some (x16, st18))
  else (
  some ((-3 : Int32), st9)))))
/-! feed -/
def M_feed (fu : Nat) (x1 : Int32) (st : mm_S) : Option (Int32 × mm_S) :=
  fc_bn (M_in fu x1 (0 : Int32) (127 : Int32) st) fun r3 st1 =>
  if r3 = 0 then (
  some ((-2 : Int32), st1))
  else (
  if (mm_I st1 10) = (100 : Int32) then (
  some ((-4 : Int32), st1))
  else (
  fc_gd (fc_ix (mm_I st1 10) 100) <|
  fc_nm (mm_sG st1 13 (mm_I st1 10).toNatClampNeg x1) fun st7 =>
  fc_nm (mm_sI st7 10 ((mm_I st7 10) + (1 : Int32))) fun st8 =>
  some ((mm_I st8 10), st8)))
/-! next -/
def M_next (fu : Nat) (st : mm_S) : Option (Int32 × mm_S) :=
  if (mm_I st 10) ≤ (mm_I st 11) then (
  some ((-1 : Int32), st))
  else (
  fc_gd (fc_ix (mm_I st 11) 100) <|
  some ((mm_G st 13 (mm_I st 11).toNatClampNeg), st))
/-! takes -/
def M_takes (fu : Nat) (x1 : Int32) (st : mm_S) : Option (Int32 × mm_S) :=
  fc_bn (M_next fu st) fun r3 st1 =>
  if r3 = x1 then (
  fc_nm (mm_sI st1 11 ((mm_I st1 11) + (1 : Int32))) fun st5 =>
  some ((1 : Int32), st5))
  else (
  some ((0 : Int32), st1))
/-! takesWord -/
def M_takesWord_b2F (fu : Nat) (K2 : Int32 → Int32 → Int32 → mm_S → Option (Int32 × mm_S)) (x1 : Int32) (x2 : Int32) (x3 : Int32) (st : mm_S) : Option (Int32 × mm_S) :=
  if x2 ≤ x3 then (
  fc_bn (M_takes fu (32 : Int32) st) fun r4 st2 =>
  fc_gd (fc_zb r4) <|
  some (r4, st2))
  else (
  fc_gd (fc_ix (x1 + x3) 13) <|
  fc_bn (M_takes fu (mm_G st 24 (x1 + x3).toNatClampNeg) st) fun r9 st7 =>
  if r9 = 0 then (
  some ((0 : Int32), st7))
  else (
  fc_nm (x3 + (1 : Int32)) fun x11 =>
  K2 x1 x2 x11 st7))
def M_takesWord_b2 (fu : Nat) (n : Nat) (x1 : Int32) (x2 : Int32) (x3 : Int32) (st : mm_S) : Option (Int32 × mm_S) :=
  fc_lp (fun (K : Int32 × Int32 × Int32 × mm_S → Option (Int32 × mm_S)) a => M_takesWord_b2F fu (fun x1 x2 x3 st => K (x1, x2, x3, st)) a.1 a.2.1 a.2.2.1 a.2.2.2) n (x1, x2, x3, st)
def M_takesWord (fu : Nat) (x1 : Int32) (x2 : Int32) (st : mm_S) : Option (Int32 × mm_S) :=
  M_takesWord_b2 fu fu x1 x2 (0 : Int32) st
/-! isDigit -/
def M_isDigit (fu : Nat) (st : mm_S) : Option (Int32 × mm_S) :=
  fc_bn (M_next fu st) fun r3 st1 =>
  fc_bn (M_in fu r3 (48 : Int32) (57 : Int32) st1) fun r6 st4 =>
  fc_gd (fc_zb r6) <|
  some (r6, st4)
/-! takesNumber -/
def M_takesNumber_b16F (fu : Nat) (K16 : Int32 → mm_S → Option (Int32 × mm_S)) (x1 : Int32) (st : mm_S) : Option (Int32 × mm_S) :=
  if (2 : Int32) ≤ x1 then (
  some ((1 : Int32), st))
  else (
  fc_bn (M_isDigit fu st) fun r9 st7 =>
  if r9 = 0 then (
  some ((1 : Int32), st7))
  else (
  fc_bn (M_next fu st7) fun r13 st11 =>
  fc_nm (mm_sI st11 12 ((((10 : Int32) * (mm_I st7 12)) + r13) - (48 : Int32))) fun st14 =>
  fc_nm (mm_sI st14 11 ((mm_I st14 11) + (1 : Int32))) fun st15 =>
  fc_nm (x1 + (1 : Int32)) fun x16 =>
  K16 x16 st15))
def M_takesNumber_b16 (fu : Nat) (n : Nat) (x1 : Int32) (st : mm_S) : Option (Int32 × mm_S) :=
  fc_lp (fun (K : Int32 × mm_S → Option (Int32 × mm_S)) a => M_takesNumber_b16F fu (fun x1 st => K (x1, st)) a.1 a.2) n (x1, st)
def M_takesNumber (fu : Nat) (st : mm_S) : Option (Int32 × mm_S) :=
  fc_bn (M_isDigit fu st) fun r3 st1 =>
  if r3 = 0 then (
  some ((0 : Int32), st1))
  else (
  fc_nm (mm_sI st1 12 (0 : Int32)) fun st5 =>
  M_takesNumber_b16 fu fu (0 : Int32) st5)
/-! emits -/
def M_emits (fu : Nat) (x1 : Int32) (st : mm_S) : Option mm_S :=
  fc_gd (fc_ix (mm_I st 21) 600) <|
  fc_nm (mm_sG st 19 (mm_I st 21).toNatClampNeg x1) fun st2 =>
  fc_nm (mm_sI st2 21 ((mm_I st2 21) + (1 : Int32))) fun st3 =>
  some st3
/-! whole -/
def M_whole_b0F (fu : Nat) (K0 : mm_S → Option mm_S) (st : mm_S) : Option mm_S :=
  if (mm_I st 22) ≤ 0 then (
  some st)
  else (
  fc_gd (fc_ix ((mm_I st 22) - (1 : Int32)) 101) <|
  if (mm_G st 20 ((mm_I st 22) - (1 : Int32)).toNatClampNeg) = (33 : Int32) then (
  fc_bv (M_emits fu (-33 : Int32) st) fun st4 =>
  fc_nm (mm_sI st4 22 ((mm_I st4 22) - (1 : Int32))) fun st6 =>
  fc_nm (mm_sI st6 23 ((mm_I st6 23) - (1 : Int32))) fun st7 =>
  K0 st7)
  else (
  some st))
def M_whole_b0 (fu : Nat) (n : Nat) (st : mm_S) : Option mm_S :=
  fc_lp (fun (K : mm_S → Option mm_S) a => M_whole_b0F fu (fun st => K (st)) a) n (st)
def M_whole (fu : Nat) (st : mm_S) : Option mm_S :=
  M_whole_b0 fu fu st
/-! settle -/
def M_settle_b45 (fu : Nat) (K0 : Int32 → mm_S → Option mm_S) (x1 : Int32) (st : mm_S) : Option mm_S :=
  fc_nm (mm_sI st 22 ((mm_I st 22) - (1 : Int32))) fun st7 =>
  fc_gd (fc_ix (mm_I st7 22) 101) <|
  fc_bv (M_emits fu (-(mm_G st7 20 (mm_I st7 22).toNatClampNeg)) st7) fun st9 =>
  K0 x1 st9
def M_settle_b0F (fu : Nat) (K0 : Int32 → mm_S → Option mm_S) (x1 : Int32) (st : mm_S) : Option mm_S :=
  if (mm_I st 22) ≤ 0 then (
  some st)
  else (
  fc_gd (fc_ix ((mm_I st 22) - (1 : Int32)) 101) <|
  if (mm_G st 20 ((mm_I st 22) - (1 : Int32)).toNatClampNeg) = (38 : Int32) then (
  M_settle_b45 fu K0 x1 st)
  else (
  fc_gd (fc_ix ((mm_I st 22) - (1 : Int32)) 101) <|
  if (mm_G st 20 ((mm_I st 22) - (1 : Int32)).toNatClampNeg) = (124 : Int32) then (
  if x1 = (38 : Int32) then (
  some st)
  else (
  M_settle_b45 fu K0 x1 st))
  else (
  some st)))
def M_settle_b0 (fu : Nat) (n : Nat) (x1 : Int32) (st : mm_S) : Option mm_S :=
  fc_lp (fun (K : Int32 × mm_S → Option mm_S) a => M_settle_b0F fu (fun x1 st => K (x1, st)) a.1 a.2) n (x1, st)
def M_settle (fu : Nat) (x1 : Int32) (st : mm_S) : Option mm_S :=
  M_settle_b0 fu fu x1 st
/-! place -/
def M_place (fu : Nat) (x1 : Int32) (st : mm_S) : Option (Int32 × mm_S) :=
  if x1 = (99 : Int32) then (
  some ((4 : Int32), st))
  else (
  if x1 = (100 : Int32) then (
  some ((5 : Int32), st))
  else (
  if x1 = (105 : Int32) then (
  some ((0 : Int32), st))
  else (
  if x1 = (107 : Int32) then (
  some ((1 : Int32), st))
  else (
  if x1 = (118 : Int32) then (
  some ((2 : Int32), st))
  else (
  if x1 = (121 : Int32) then (
  some ((3 : Int32), st))
  else (
  some ((-1 : Int32), st)))))))
/-! takesTest -/
def M_takesTest (fu : Nat) (st : mm_S) : Option (Int32 × mm_S) :=
  fc_bn (M_next fu st) fun r3 st1 =>
  fc_bn (M_place fu r3 st1) fun r6 st4 =>
  if 0 ≤ r6 then (
  fc_nm (mm_sI st4 11 ((mm_I st4 11) + (1 : Int32))) fun st8 =>
  fc_bn (M_next fu st8) fun r11 st9 =>
  fc_bn (M_in fu r11 (60 : Int32) (62 : Int32) st9) fun r14 st12 =>
  if r14 = 0 then (
  some ((0 : Int32), st12))
  else (
  fc_nm (mm_sI st12 11 ((mm_I st12 11) + (1 : Int32))) fun st16 =>
  fc_bn (M_takesNumber fu st16) fun r19 st17 =>
  if r19 = 0 then (
  some ((0 : Int32), st17))
  else (
  fc_bv (M_emits fu ((((1000 : Int32) * r6) + ((100 : Int32) * (r11 - (60 : Int32)))) + (mm_I st17 12)) st17) fun st21 =>
  fc_bv (M_whole fu st21) fun st23 =>
  some ((1 : Int32), st23))))
  else (
  some ((0 : Int32), st4))
/-! takesE -/
def M_takesE_b122 (fu : Nat) (K22 : Int32 → Int32 → mm_S → Option (Int32 × mm_S)) (x1 : Int32) (x3 : Int32) (st : mm_S) : Option (Int32 × mm_S) :=
  fc_bv (M_settle fu x3 st) fun st28 =>
  fc_gd (fc_ix (mm_I st28 22) 101) <|
  fc_nm (mm_sG st28 20 (mm_I st28 22).toNatClampNeg x3) fun st31 =>
  fc_nm (mm_sI st31 22 ((mm_I st31 22) + (1 : Int32))) fun st32 =>
  fc_nm (mm_sI st32 11 ((mm_I st32 11) + (1 : Int32))) fun st33 =>
  K22 x1 (1 : Int32) st33
def M_takesE_b43 (fu : Nat) (K22 : Int32 → Int32 → mm_S → Option (Int32 × mm_S)) (x1 : Int32) (x2 : Int32) (x3 : Int32) (st : mm_S) : Option (Int32 × mm_S) :=
  if (mm_I st 23) = (4 : Int32) then (
  some ((0 : Int32), st))
  else (
  fc_nm (mm_sI st 23 ((mm_I st 23) + (1 : Int32))) fun st35 =>
  fc_gd (fc_ix (mm_I st35 22) 101) <|
  fc_nm (mm_sG st35 20 (mm_I st35 22).toNatClampNeg x3) fun st37 =>
  fc_nm (mm_sI st37 22 ((mm_I st37 22) + (1 : Int32))) fun st38 =>
  fc_nm (mm_sI st38 11 ((mm_I st38 11) + (1 : Int32))) fun st39 =>
  K22 x1 x2 st39)
def M_takesE_b22F (fu : Nat) (K22 : Int32 → Int32 → mm_S → Option (Int32 × mm_S)) (x1 : Int32) (x2 : Int32) (st : mm_S) : Option (Int32 × mm_S) :=
  fc_bn (M_next fu st) fun r7 st5 =>
  if x2 = 0 then (
  if r7 = (38 : Int32) then (
  M_takesE_b122 fu K22 x1 r7 st5)
  else (
  if r7 = (124 : Int32) then (
  M_takesE_b122 fu K22 x1 r7 st5)
  else (
  fc_bv (M_settle fu (124 : Int32) st5) fun st11 =>
  fc_gd (fc_ix x1 60) <|
  fc_nm (mm_sG st11 18 x1.toNatClampNeg (mm_I st11 21)) fun st14 =>
  if (mm_I st14 22) = 0 then (
  some ((1 : Int32), st14))
  else (
  if r7 = (41 : Int32) then (
  fc_nm (mm_sI st14 22 ((mm_I st14 22) - (1 : Int32))) fun st17 =>
  fc_nm (mm_sI st17 23 ((mm_I st17 23) - (1 : Int32))) fun st18 =>
  fc_nm (mm_sI st18 11 ((mm_I st18 11) + (1 : Int32))) fun st19 =>
  fc_bv (M_whole fu st19) fun st20 =>
  K22 x1 x2 st20)
  else (
  some ((0 : Int32), st14))))))
  else (
  if r7 = (33 : Int32) then (
  M_takesE_b43 fu K22 x1 x2 r7 st5)
  else (
  if r7 = (40 : Int32) then (
  M_takesE_b43 fu K22 x1 x2 r7 st5)
  else (
  fc_bn (M_takesTest fu st5) fun r26 st24 =>
  if r26 = 0 then (
  some ((0 : Int32), st24))
  else (
  K22 x1 (0 : Int32) st24))))
def M_takesE_b22 (fu : Nat) (n : Nat) (x1 : Int32) (x2 : Int32) (st : mm_S) : Option (Int32 × mm_S) :=
  fc_lp (fun (K : Int32 × Int32 × mm_S → Option (Int32 × mm_S)) a => M_takesE_b22F fu (fun x1 x2 st => K (x1, x2, st)) a.1 a.2.1 a.2.2) n (x1, x2, st)
def M_takesE (fu : Nat) (x1 : Int32) (st : mm_S) : Option (Int32 × mm_S) :=
  fc_nm (mm_sI st 22 (0 : Int32)) fun st1 =>
  fc_nm (mm_sI st1 23 (0 : Int32)) fun st2 =>
  fc_gd (fc_ix x1 60) <|
  fc_nm (mm_sG st2 17 x1.toNatClampNeg (mm_I st2 21)) fun st4 =>
  M_takesE_b22 fu fu x1 (1 : Int32) st4
/-! takesHead -/
def M_takesHead (fu : Nat) (x1 : Int32) (st : mm_S) : Option (Int32 × mm_S) :=
  fc_bn (M_next fu st) fun r3 st1 =>
  if r3 = (102 : Int32) then (
  fc_gd (fc_ix x1 60) <|
  fc_nm (mm_sG st1 15 x1.toNatClampNeg (0 : Int32)) fun st6 =>
  fc_bn (M_takesWord fu (0 : Int32) (4 : Int32) st6) fun r9 st7 =>
  fc_gd (fc_zb r9) <|
  some (r9, st7))
  else (
  if r3 = (115 : Int32) then (
  fc_gd (fc_ix x1 60) <|
  fc_nm (mm_sG st1 15 x1.toNatClampNeg (1 : Int32)) fun st13 =>
  fc_bn (M_takesWord fu (4 : Int32) (5 : Int32) st13) fun r16 st14 =>
  fc_gd (fc_zb r16) <|
  some (r16, st14))
  else (
  fc_gd (fc_ix x1 60) <|
  fc_nm (mm_sG st1 15 x1.toNatClampNeg (2 : Int32)) fun st19 =>
  fc_bn (M_takesWord fu (9 : Int32) (4 : Int32) st19) fun r22 st20 =>
  fc_gd (fc_zb r22) <|
  some (r22, st20)))
/-! takesClause -/
def M_takesClause (fu : Nat) (x1 : Int32) (st : mm_S) : Option (Int32 × mm_S) :=
  fc_bn (M_takesHead fu x1 st) fun r3 st1 =>
  if r3 = 0 then (
  some ((0 : Int32), st1))
  else (
  fc_bn (M_takesNumber fu st1) fun r7 st5 =>
  if r7 = 0 then (
  some ((0 : Int32), st5))
  else (
  fc_gd (fc_ix x1 60) <|
  fc_nm (mm_sG st5 16 x1.toNatClampNeg (mm_I st5 12)) fun st10 =>
  fc_gd (fc_ix x1 60) <|
  if (mm_G st10 15 x1.toNatClampNeg) = (2 : Int32) then (
  some ((1 : Int32), st10))
  else (
  fc_bn (M_takes fu (32 : Int32) st10) fun r15 st13 =>
  if r15 = 0 then (
  some ((0 : Int32), st13))
  else (
  fc_bn (M_takesE fu x1 st13) fun r19 st17 =>
  if r19 = 0 then (
  some ((0 : Int32), st17))
  else (
  some ((1 : Int32), st17))))))
/-! goesText -/
def M_goesText_b15F (fu : Nat) (K15 : Int32 → Int32 → mm_S → Option (Int32 × mm_S)) (x1 : Int32) (x2 : Int32) (st : mm_S) : Option (Int32 × mm_S) :=
  fc_bn (M_takesClause fu (((10 : Int32) * x1) + x2) st) fun r5 st3 =>
  if r5 = 0 then (
  some ((0 : Int32), st3))
  else (
  fc_nm (x2 + (1 : Int32)) fun x7 =>
  fc_gd (fc_ix x1 6) <|
  fc_nm (mm_sG st3 14 x1.toNatClampNeg x7) fun st9 =>
  if (mm_I st9 11) = (mm_I st9 10) then (
  some ((1 : Int32), st9))
  else (
  if x7 = (10 : Int32) then (
  some ((0 : Int32), st9))
  else (
  fc_bn (M_takes fu (59 : Int32) st9) fun r14 st12 =>
  if r14 = 0 then (
  some ((0 : Int32), st12))
  else (
  K15 x1 x7 st12))))
def M_goesText_b15 (fu : Nat) (n : Nat) (x1 : Int32) (x2 : Int32) (st : mm_S) : Option (Int32 × mm_S) :=
  fc_lp (fun (K : Int32 × Int32 × mm_S → Option (Int32 × mm_S)) a => M_goesText_b15F fu (fun x1 x2 st => K (x1, x2, st)) a.1 a.2.1 a.2.2) n (x1, x2, st)
def M_goesText (fu : Nat) (x1 : Int32) (st : mm_S) : Option (Int32 × mm_S) :=
  fc_nm (mm_sI st 11 (0 : Int32)) fun st1 =>
  fc_nm (mm_sI st1 21 ((100 : Int32) * x1)) fun st2 =>
  M_goesText_b15 fu fu x1 (0 : Int32) st2
/-! archive -/
def M_archive (fu : Nat) (st : mm_S) : Option (Int32 × mm_S) :=
  if (mm_I st 8) = (6 : Int32) then (
  some ((-4 : Int32), st))
  else (
  fc_bn (M_goesText fu (mm_I st 8) st) fun r4 st2 =>
  fc_nm (mm_sI st2 10 (0 : Int32)) fun st5 =>
  if r4 = 0 then (
  some (((-10 : Int32) - (mm_I st5 11)), st5))
  else (
  fc_nm (mm_sI st5 9 (mm_I st5 8)) fun st7 =>
  fc_nm (mm_sI st7 8 ((mm_I st7 8) + (1 : Int32))) fun st8 =>
  some ((mm_I st8 9), st8)))
/-! begin -/
def M_begin (fu : Nat) (st : mm_S) : Option (Int32 × mm_S) :=
  if 0 ≤ (mm_I st 9) then (
  some (((10 : Int32) * (mm_I st 9)), st))
  else (
  some ((0 : Int32), st))
/-! behind -/
def M_behind (fu : Nat) (st : mm_S) : Option (Int32 × mm_S) :=
  if 0 ≤ (mm_I st 9) then (
  fc_gd (fc_ix (mm_I st 9) 6) <|
  some ((((10 : Int32) * (mm_I st 9)) + (mm_G st 14 (mm_I st 9).toNatClampNeg)), st))
  else (
  some ((0 : Int32), st))
/-! keep -/
def M_keep_b35 (fu : Nat) (K7 : Int32 → Int32 → mm_S → Option (Int32 × mm_S)) (x2 : Int32) (s0 : Int32) (st : mm_S) : Option (Int32 × mm_S) :=
  fc_nm (x2 + (1 : Int32)) fun x11 =>
  K7 s0 x11 st
def M_keep_b7F (fu : Nat) (K7 : Int32 → Int32 → mm_S → Option (Int32 × mm_S)) (x1 : Int32) (x2 : Int32) (st : mm_S) : Option (Int32 × mm_S) :=
  fc_bn (M_behind fu st) fun r6 st4 =>
  if r6 ≤ x2 then (
  some (x1, st4))
  else (
  fc_gd (fc_ix x2 60) <|
  if (mm_G st4 15 x2.toNatClampNeg) = (2 : Int32) then (
  fc_gd (fc_ix x2 60) <|
  M_keep_b35 fu K7 x2 (mm_G st4 16 x2.toNatClampNeg) st4)
  else (
  M_keep_b35 fu K7 x2 x1 st4))
def M_keep_b7 (fu : Nat) (n : Nat) (x1 : Int32) (x2 : Int32) (st : mm_S) : Option (Int32 × mm_S) :=
  fc_lp (fun (K : Int32 × Int32 × mm_S → Option (Int32 × mm_S)) a => M_keep_b7F fu (fun x1 x2 st => K (x1, x2, st)) a.1 a.2.1 a.2.2) n (x1, x2, st)
def M_keep (fu : Nat) (st : mm_S) : Option (Int32 × mm_S) :=
  fc_bn (M_begin fu st) fun r3 st1 =>
  M_keep_b7 fu fu (1 : Int32) r3 st1
/-! factOf -/
def M_factOf (fu : Nat) (x1 : Int32) (x2 : Int32) (x3 : Int32) (x4 : Int32) (st : mm_S) : Option (Int32 × mm_S) :=
  if x1 = (0 : Int32) then (
  some (x2, st))
  else (
  if x1 = (1 : Int32) then (
  fc_gd (fc_ix x2 6) <|
  some ((mm_G st 4 x2.toNatClampNeg), st))
  else (
  if x1 = (2 : Int32) then (
  fc_gd (fc_ix x2 6) <|
  some ((mm_G st 5 x2.toNatClampNeg), st))
  else (
  if x1 = (3 : Int32) then (
  some ((x3 - x3 / (10 : Int32) * (10 : Int32)), st))
  else (
  if x1 = (4 : Int32) then (
  some (((x3 / (10 : Int32)) - (x3 / (10 : Int32)) / (10 : Int32) * (10 : Int32)), st))
  else (
  some (x4, st))))))
/-! holds -/
def M_holds_b249 (fu : Nat) (K11 : Int32 → Int32 → Int32 → Int32 → Int32 → Int32 → mm_S → Option (Int32 × mm_S)) (x1 : Int32) (x2 : Int32) (x3 : Int32) (x4 : Int32) (x5 : Int32) (x6 : Int32) (st : mm_S) : Option (Int32 × mm_S) :=
  fc_nm (x6 + (1 : Int32)) fun x39 =>
  K11 x1 x2 x3 x4 x5 x39 st
def M_holds_b245 (fu : Nat) (K11 : Int32 → Int32 → Int32 → Int32 → Int32 → Int32 → mm_S → Option (Int32 × mm_S)) (x1 : Int32) (x2 : Int32) (x3 : Int32) (x4 : Int32) (x5 : Int32) (x6 : Int32) (s0 : Int32) (s1 : Int32) (st : mm_S) : Option (Int32 × mm_S) :=
  fc_gd (fc_ix s1 100) <|
  fc_nm (mm_sG st 25 s1.toNatClampNeg (vp_nar .boolean s0)) fun st33 =>
  fc_nm (x5 + (1 : Int32)) fun x34 =>
  M_holds_b249 fu K11 x1 x2 x3 x4 x34 x6 st33
def M_holds_b147 (fu : Nat) (K11 : Int32 → Int32 → Int32 → Int32 → Int32 → Int32 → mm_S → Option (Int32 × mm_S)) (x1 : Int32) (x2 : Int32) (x3 : Int32) (x4 : Int32) (x5 : Int32) (x6 : Int32) (s0 : Int32) (s1 : Int32) (st : mm_S) : Option (Int32 × mm_S) :=
  fc_gd (fc_ix s1 100) <|
  fc_nm (mm_sG st 25 s1.toNatClampNeg (vp_nar .boolean s0)) fun st36 =>
  M_holds_b249 fu K11 x1 x2 x3 x4 x5 x6 st36
def M_holds_b142 (fu : Nat) (K11 : Int32 → Int32 → Int32 → Int32 → Int32 → Int32 → mm_S → Option (Int32 × mm_S)) (x1 : Int32) (x2 : Int32) (x3 : Int32) (x4 : Int32) (x5 : Int32) (x6 : Int32) (s0 : Int32) (st : mm_S) : Option (Int32 × mm_S) :=
  M_holds_b147 fu K11 x1 x2 x3 x4 x5 x6 (1 : Int32) s0 st
def M_holds_b116 (fu : Nat) (K11 : Int32 → Int32 → Int32 → Int32 → Int32 → Int32 → mm_S → Option (Int32 × mm_S)) (x1 : Int32) (x2 : Int32) (x3 : Int32) (x4 : Int32) (x5 : Int32) (x6 : Int32) (s0 : Int32) (st : mm_S) : Option (Int32 × mm_S) :=
  M_holds_b147 fu K11 x1 x2 x3 x4 x5 x6 (0 : Int32) s0 st
def M_holds_b63 (fu : Nat) (K11 : Int32 → Int32 → Int32 → Int32 → Int32 → Int32 → mm_S → Option (Int32 × mm_S)) (x1 : Int32) (x2 : Int32) (x3 : Int32) (x4 : Int32) (x5 : Int32) (x6 : Int32) (s0 : Int32) (s1 : Int32) (st : mm_S) : Option (Int32 × mm_S) :=
  fc_gd (fc_ix s1 100) <|
  fc_nm (mm_sG st 25 s1.toNatClampNeg (vp_nar .boolean s0)) fun st38 =>
  M_holds_b249 fu K11 x1 x2 x3 x4 x5 x6 st38
def M_holds_b11F (fu : Nat) (K11 : Int32 → Int32 → Int32 → Int32 → Int32 → Int32 → mm_S → Option (Int32 × mm_S)) (x1 : Int32) (x2 : Int32) (x3 : Int32) (x4 : Int32) (x5 : Int32) (x6 : Int32) (st : mm_S) : Option (Int32 × mm_S) :=
  fc_gd (fc_ix x1 60) <|
  if (mm_G st 18 x1.toNatClampNeg) ≤ x6 then (
  fc_gd (fc_ix (0 : Int32) 100) <|
  fc_gd (fc_zb (mm_G st 25 (0 : Int32).toNatClampNeg)) <|
  some ((mm_G st 25 (0 : Int32).toNatClampNeg), st))
  else (
  fc_gd (fc_ix x6 600) <|
  fc_nm (mm_G st 19 x6.toNatClampNeg) fun x8 =>
  if x8 = (-33 : Int32) then (
  fc_gd (fc_ix (x5 - (1 : Int32)) 100) <|
  if (mm_G st 25 (x5 - (1 : Int32)).toNatClampNeg) = 0 then (
  M_holds_b63 fu K11 x1 x2 x3 x4 x5 x6 (1 : Int32) (x5 - (1 : Int32)) st)
  else (
  M_holds_b63 fu K11 x1 x2 x3 x4 x5 x6 (0 : Int32) (x5 - (1 : Int32)) st))
  else (
  if 0 ≤ x8 then (
  fc_bn (M_factOf fu (x8 / (1000 : Int32)) x2 x3 x4 st) fun r13 st11 =>
  fc_nm ((x8 / (100 : Int32)) - (x8 / (100 : Int32)) / (10 : Int32) * (10 : Int32)) fun x14 =>
  if x14 = 0 then (
  if (x8 - x8 / (100 : Int32) * (100 : Int32)) ≤ r13 then (
  M_holds_b245 fu K11 x1 x2 x3 x4 x5 x6 (0 : Int32) x5 st11)
  else (
  M_holds_b245 fu K11 x1 x2 x3 x4 x5 x6 (1 : Int32) x5 st11))
  else (
  if x14 = (1 : Int32) then (
  if r13 = (x8 - x8 / (100 : Int32) * (100 : Int32)) then (
  M_holds_b245 fu K11 x1 x2 x3 x4 x5 x6 (1 : Int32) x5 st11)
  else (
  M_holds_b245 fu K11 x1 x2 x3 x4 x5 x6 (0 : Int32) x5 st11))
  else (
  if r13 ≤ (x8 - x8 / (100 : Int32) * (100 : Int32)) then (
  M_holds_b245 fu K11 x1 x2 x3 x4 x5 x6 (0 : Int32) x5 st11)
  else (
  M_holds_b245 fu K11 x1 x2 x3 x4 x5 x6 (1 : Int32) x5 st11))))
  else (
  fc_nm (x5 + (-1 : Int32)) fun x20 =>
  if x8 = (-38 : Int32) then (
  fc_gd (fc_ix (x20 - (1 : Int32)) 100) <|
  if (mm_G st 25 (x20 - (1 : Int32)).toNatClampNeg) = 0 then (
  M_holds_b116 fu K11 x1 x2 x3 x4 x20 x6 (x20 - (1 : Int32)) st)
  else (
  fc_gd (fc_ix x20 100) <|
  if (mm_G st 25 x20.toNatClampNeg) = 0 then (
  M_holds_b116 fu K11 x1 x2 x3 x4 x20 x6 (x20 - (1 : Int32)) st)
  else (
  M_holds_b147 fu K11 x1 x2 x3 x4 x20 x6 (1 : Int32) (x20 - (1 : Int32)) st)))
  else (
  fc_gd (fc_ix (x20 - (1 : Int32)) 100) <|
  if (mm_G st 25 (x20 - (1 : Int32)).toNatClampNeg) = 0 then (
  fc_gd (fc_ix x20 100) <|
  if (mm_G st 25 x20.toNatClampNeg) = 0 then (
  M_holds_b147 fu K11 x1 x2 x3 x4 x20 x6 (0 : Int32) (x20 - (1 : Int32)) st)
  else (
  M_holds_b142 fu K11 x1 x2 x3 x4 x20 x6 (x20 - (1 : Int32)) st))
  else (
  M_holds_b142 fu K11 x1 x2 x3 x4 x20 x6 (x20 - (1 : Int32)) st)))))
def M_holds_b11 (fu : Nat) (n : Nat) (x1 : Int32) (x2 : Int32) (x3 : Int32) (x4 : Int32) (x5 : Int32) (x6 : Int32) (st : mm_S) : Option (Int32 × mm_S) :=
  fc_lp (fun (K : Int32 × Int32 × Int32 × Int32 × Int32 × Int32 × mm_S → Option (Int32 × mm_S)) a => M_holds_b11F fu (fun x1 x2 x3 x4 x5 x6 st => K (x1, x2, x3, x4, x5, x6, st)) a.1 a.2.1 a.2.2.1 a.2.2.2.1 a.2.2.2.2.1 a.2.2.2.2.2.1 a.2.2.2.2.2.2) n (x1, x2, x3, x4, x5, x6, st)
def M_holds (fu : Nat) (x1 : Int32) (x2 : Int32) (x3 : Int32) (x4 : Int32) (st : mm_S) : Option (Int32 × mm_S) :=
  fc_gd (fc_ix x1 60) <|
  fc_nm (mm_G st 17 x1.toNatClampNeg) fun x2 =>
  M_holds_b11 fu fu x1 x2 x3 x4 (0 : Int32) x2 st
/-! base -/
def M_base_b78 (fu : Nat) (K10 : Int32 → Int32 → Int32 → Int32 → Int32 → mm_S → Option (Int32 × mm_S)) (x1 : Int32) (x2 : Int32) (x3 : Int32) (x4 : Int32) (x5 : Int32) (st : mm_S) : Option (Int32 × mm_S) :=
  fc_nm (x5 + (1 : Int32)) fun x18 =>
  K10 x1 x2 x3 x4 x18 st
def M_base_b75 (fu : Nat) (K10 : Int32 → Int32 → Int32 → Int32 → Int32 → mm_S → Option (Int32 × mm_S)) (x1 : Int32) (x2 : Int32) (x3 : Int32) (x5 : Int32) (s0 : Int32) (s1 : Int32) (st : mm_S) : Option (Int32 × mm_S) :=
  fc_nm (s1 + s0) fun x19 =>
  M_base_b78 fu K10 x1 x2 x3 x19 x5 st
def M_base_b10F (fu : Nat) (K10 : Int32 → Int32 → Int32 → Int32 → Int32 → mm_S → Option (Int32 × mm_S)) (x1 : Int32) (x2 : Int32) (x3 : Int32) (x4 : Int32) (x5 : Int32) (st : mm_S) : Option (Int32 × mm_S) :=
  fc_bn (M_behind fu st) fun r6 st4 =>
  if r6 ≤ x5 then (
  some (x4, st4))
  else (
  fc_gd (fc_ix x5 60) <|
  if (1 : Int32) < (mm_G st4 15 x5.toNatClampNeg) then (
  M_base_b78 fu K10 x1 x2 x3 x4 x5 st4)
  else (
  fc_bn (M_holds fu x5 x1 x2 x3 st4) fun r12 st10 =>
  if r12 = 0 then (
  M_base_b78 fu K10 x1 x2 x3 x4 x5 st10)
  else (
  fc_gd (fc_ix x5 60) <|
  if (mm_G st10 15 x5.toNatClampNeg) = 0 then (
  fc_gd (fc_ix x5 60) <|
  M_base_b75 fu K10 x1 x2 x3 x5 (mm_G st10 16 x5.toNatClampNeg) x4 st10)
  else (
  fc_gd (fc_ix x5 60) <|
  M_base_b75 fu K10 x1 x2 x3 x5 (-(mm_G st10 16 x5.toNatClampNeg)) x4 st10))))
def M_base_b10 (fu : Nat) (n : Nat) (x1 : Int32) (x2 : Int32) (x3 : Int32) (x4 : Int32) (x5 : Int32) (st : mm_S) : Option (Int32 × mm_S) :=
  fc_lp (fun (K : Int32 × Int32 × Int32 × Int32 × Int32 × mm_S → Option (Int32 × mm_S)) a => M_base_b10F fu (fun x1 x2 x3 x4 x5 st => K (x1, x2, x3, x4, x5, st)) a.1 a.2.1 a.2.2.1 a.2.2.2.1 a.2.2.2.2.1 a.2.2.2.2.2) n (x1, x2, x3, x4, x5, st)
def M_base (fu : Nat) (x1 : Int32) (x2 : Int32) (x3 : Int32) (st : mm_S) : Option (Int32 × mm_S) :=
  fc_bn (M_begin fu st) fun r3 st1 =>
  M_base_b10 fu fu x1 x2 x3 (10 : Int32) r3 st1
/-! worthOf -/
def M_worthOf_b159 (fu : Nat) (x6 : Int32) (st : mm_S) : Option (Int32 × mm_S) :=
  if 0 ≤ x6 then (
  some (x6, st))
  else (
  some ((0 : Int32), st))
def M_worthOf_b117 (fu : Nat) (s0 : Int32) (s1 : Int32) (st : mm_S) : Option (Int32 × mm_S) :=
  fc_nm (s1 * s0) fun x21 =>
  M_worthOf_b159 fu x21 st
def M_worthOf_b22 (fu : Nat) (x1 : Int32) (x2 : Int32) (x3 : Int32) (x4 : Int32) (s0 : Int32) (st : mm_S) : Option (Int32 × mm_S) :=
  fc_gd (fc_ix x1 6) <|
  fc_nm (mm_G st 4 x1.toNatClampNeg) fun x6 =>
  if x6 = (1 : Int32) then (
  fc_nm (x4 + (x2 - x2 / (8 : Int32) * (8 : Int32))) fun x8 =>
  M_worthOf_b159 fu x8 st)
  else (
  if x6 = (2 : Int32) then (
  M_worthOf_b159 fu s0 st)
  else (
  if x6 = (3 : Int32) then (
  fc_nm (x4 / (2 : Int32)) fun x11 =>
  M_worthOf_b159 fu x11 st)
  else (
  if x6 = (4 : Int32) then (
  if x3 = (1 : Int32) then (
  M_worthOf_b117 fu (2 : Int32) (x4 + (x2 - x2 / (8 : Int32) * (8 : Int32))) st)
  else (
  M_worthOf_b117 fu (1 : Int32) (x4 + (x2 - x2 / (8 : Int32) * (8 : Int32))) st))
  else (
  if x6 = (5 : Int32) then (
  fc_gd (fc_ix x1 6) <|
  fc_nm (s0 + (mm_G st 5 x1.toNatClampNeg)) fun x16 =>
  M_worthOf_b159 fu x16 st)
  else (
  if x6 = (6 : Int32) then (
  fc_gd (fc_ix (((4 : Int32) * x1) + (x2 - x2 / (4 : Int32) * (4 : Int32))) 24) <|
  fc_nm ((x4 / (2 : Int32)) + (mm_G st 7 (((4 : Int32) * x1) + (x2 - x2 / (4 : Int32) * (4 : Int32))).toNatClampNeg)) fun x19 =>
  M_worthOf_b159 fu x19 st)
  else (
  M_worthOf_b159 fu x4 st))))))
def M_worthOf (fu : Nat) (x1 : Int32) (x2 : Int32) (x3 : Int32) (st : mm_S) : Option (Int32 × mm_S) :=
  fc_bn (M_base fu x1 x2 x3 st) fun r3 st1 =>
  if (x2 - x2 / (2 : Int32) * (2 : Int32)) = (1 : Int32) then (
  M_worthOf_b22 fu x1 x2 x3 r3 (0 : Int32) st1)
  else (
  M_worthOf_b22 fu x1 x2 x3 r3 r3 st1)
/-! of -/
def M_of (fu : Nat) (x1 : Int32) (x2 : Int32) (st : mm_S) : Option (Int32 × mm_S) :=
  fc_bn (M_isNeed fu x1 st) fun r3 st1 =>
  if r3 = 0 then (
  some ((-1 : Int32), st1))
  else (
  if x2 = (0 : Int32) then (
  fc_gd (fc_ix x1 6) <|
  some ((mm_G st1 4 x1.toNatClampNeg), st1))
  else (
  if x2 = (1 : Int32) then (
  fc_gd (fc_ix x1 6) <|
  some ((mm_G st1 5 x1.toNatClampNeg), st1))
  else (
  if x2 = (2 : Int32) then (
  fc_gd (fc_ix x1 6) <|
  some ((mm_G st1 6 x1.toNatClampNeg), st1))
  else (
  if x2 = (3 : Int32) then (
  fc_bn (M_worthOf fu x1 (mm_I st1 3) (mm_I st1 1) st1) fun r14 st12 =>
  some (r14, st12))
  else (
  some ((-1 : Int32), st1))))))
/-! worth -/
def M_worth (fu : Nat) (x1 : Int32) (x2 : Int32) (x3 : Int32) (st : mm_S) : Option (Int32 × mm_S) :=
  fc_bn (M_isNeed fu x1 st) fun r3 st1 =>
  if r3 = 0 then (
  some ((-1 : Int32), st1))
  else (
  fc_bn (M_in fu x2 (0 : Int32) (60 : Int32) st1) fun r7 st5 =>
  if r7 = 0 then (
  some ((-2 : Int32), st5))
  else (
  fc_bn (M_isDarks fu x3 st5) fun r11 st9 =>
  if r11 = 0 then (
  some ((-2 : Int32), st9))
  else (
  fc_bn (M_worthOf fu x1 ((mm_I st9 3) + x2) x3 st9) fun r15 st13 =>
  some (r15, st13))))
/-! held -/
def M_held (fu : Nat) (x1 : Int32) (st : mm_S) : Option (Int32 × mm_S) :=
  if x1 ≤ (999999 : Int32) then (
  if (-999999 : Int32) ≤ x1 then (
  some (x1, st))
  else (
  some ((-999999 : Int32), st)))
  else (
  some ((999999 : Int32), st))
/-! serve -/
def M_serve (fu : Nat) (x1 : Int32) (st : mm_S) : Option (Int32 × mm_S) :=
  fc_bn (M_isNeed fu x1 st) fun r3 st1 =>
  if r3 = 0 then (
  some ((-10000001 : Int32), st1))
  else (
  if (mm_I st1 1) = 0 then (
  some ((-10000002 : Int32), st1))
  else (
  if (mm_I st1 3) = (9999 : Int32) then (
  some ((-10000002 : Int32), st1))
  else (
  fc_gd (fc_ix x1 6) <|
  if (mm_G st1 6 x1.toNatClampNeg) = (9999 : Int32) then (
  some ((-10000002 : Int32), st1))
  else (
  fc_bn (M_worthOf fu x1 (mm_I st1 3) (mm_I st1 1) st1) fun r11 st9 =>
  fc_nm (mm_sI st9 1 ((mm_I st9 1) - (1 : Int32))) fun st12 =>
  fc_gd (fc_ix x1 6) <|
  fc_gd (fc_ix x1 6) <|
  fc_nm (mm_sG st12 6 x1.toNatClampNeg ((mm_G st12 6 x1.toNatClampNeg) + (1 : Int32))) fun st15 =>
  fc_bn (M_keep fu st15) fun r18 st16 =>
  fc_bn (M_held fu (((mm_I st15 2) + r11) - (r18 * (mm_I st16 1))) st16) fun r21 st19 =>
  fc_nm (mm_sI st19 2 r21) fun st22 =>
  fc_nm (mm_sI st22 3 ((mm_I st22 3) + (1 : Int32))) fun st23 =>
  some ((mm_I st23 2), st23)))))
/-! spare -/
def M_spare (fu : Nat) (x1 : Int32) (st : mm_S) : Option (Int32 × mm_S) :=
  fc_bn (M_isNeed fu x1 st) fun r3 st1 =>
  if r3 = 0 then (
  some ((-10000001 : Int32), st1))
  else (
  if (mm_I st1 3) = (9999 : Int32) then (
  some ((-10000002 : Int32), st1))
  else (
  fc_bn (M_keep fu st1) fun r8 st6 =>
  fc_bn (M_held fu ((mm_I st1 2) - (r8 * (mm_I st6 1))) st6) fun r11 st9 =>
  fc_nm (mm_sI st9 2 r11) fun st12 =>
  fc_nm (mm_sI st12 3 ((mm_I st12 3) + (1 : Int32))) fun st13 =>
  some ((mm_I st13 2), st13)))
/-! told -/
def M_told (fu : Nat) (x1 : Int32) (st : mm_S) : Option (Int32 × mm_S) :=
  if x1 = (0 : Int32) then (
  some ((mm_I st 3), st))
  else (
  if x1 = (1 : Int32) then (
  some ((mm_I st 1), st))
  else (
  if x1 = (2 : Int32) then (
  some ((mm_I st 2), st))
  else (
  if x1 = (3 : Int32) then (
  fc_bn (M_keep fu st) fun r7 st5 =>
  some (r7, st5))
  else (
  some ((-10000001 : Int32), st)))))
/-! ways -/
def M_ways_b5F (fu : Nat) (K5 : Int32 → Int64 → Int32 → mm_S → Option (Int64 × mm_S)) (x1 : Int32) (x2 : Int64) (x4 : Int32) (st : mm_S) : Option (Int64 × mm_S) :=
  if x1 ≤ x4 then (
  some (x2, st))
  else (
  fc_nm (x2 * (((mm_I st 0)).toInt64)) fun x2 =>
  fc_nm (x4 + (1 : Int32)) fun x3 =>
  K5 x1 x2 x3 st)
def M_ways_b5 (fu : Nat) (n : Nat) (x1 : Int32) (x2 : Int64) (x4 : Int32) (st : mm_S) : Option (Int64 × mm_S) :=
  fc_lp (fun (K : Int32 × Int64 × Int32 × mm_S → Option (Int64 × mm_S)) a => M_ways_b5F fu (fun x1 x2 x4 st => K (x1, x2, x4, st)) a.1 a.2.1 a.2.2.1 a.2.2.2) n (x1, x2, x4, st)
def M_ways (fu : Nat) (x1 : Int32) (st : mm_S) : Option (Int64 × mm_S) :=
  M_ways_b5 fu fu x1 (1 : Int64) (0 : Int32) st
/-! ifServed -/
def M_ifServed (fu : Nat) (x1 : Int32) (x2 : Int32) (x3 : Int32) (x4 : Int32) (st : mm_S) : Option (Int64 × mm_S) :=
  fc_bn (M_ways fu ((x3 - x2) - (1 : Int32)) st) fun r3 st1 =>
  fc_bn (M_worthOf fu x1 ((mm_I st1 3) + x2) x4 st1) fun r6 st4 =>
  fc_bn (M_keep fu st4) fun r9 st7 =>
  fc_gd (fc_ix (((((10 : Int32) * x2) + (10 : Int32)) + x4) - (1 : Int32)) 90) <|
  some (((r3 * (((r6 - (r9 * (x4 - (1 : Int32))))).toInt64)) + (mm_L st7 26 (((((10 : Int32) * x2) + (10 : Int32)) + x4) - (1 : Int32)).toNatClampNeg)), st7)
/-! ifSpared -/
def M_ifSpared (fu : Nat) (x1 : Int32) (x2 : Int32) (x3 : Int32) (st : mm_S) : Option (Int64 × mm_S) :=
  fc_bn (M_ways fu ((x2 - x1) - (1 : Int32)) st) fun r3 st1 =>
  fc_bn (M_keep fu st1) fun r6 st4 =>
  fc_gd (fc_ix ((((10 : Int32) * x1) + (10 : Int32)) + x3) 90) <|
  some (((r3 * ((((-r6) * x3)).toInt64)) + (mm_L st4 26 ((((10 : Int32) * x1) + (10 : Int32)) + x3).toNatClampNeg)), st4)
/-! gainOf -/
def M_gainOf_b89 (fu : Nat) (x6 : Int64) (x8 : Int64) (s0 : Int32) (st : mm_S) : Option (Int64 × mm_S) :=
  if s0 = 0 then (
  some (x6, st))
  else (
  some (x8, st))
def M_gainOf (fu : Nat) (x1 : Int32) (x2 : Int32) (x3 : Int32) (x4 : Int32) (x5 : Int32) (st : mm_S) : Option (Int64 × mm_S) :=
  fc_bn (M_ifSpared fu x3 x4 x5 st) fun r3 st1 =>
  if x5 = 0 then (
  some (r3, st1))
  else (
  fc_bn (M_ifServed fu x2 x3 x4 x5 st1) fun r7 st5 =>
  if x1 = 0 then (
  if (lg_cmp r7 r3) ≤ 0 then (
  some (r3, st5))
  else (
  some (r7, st5)))
  else (
  if x1 = (1 : Int32) then (
  fc_bn (M_worthOf fu x2 ((mm_I st5 3) + x3) x5 st5) fun r15 st13 =>
  if r15 ≤ 0 then (
  M_gainOf_b89 fu r3 r7 (0 : Int32) st13)
  else (
  M_gainOf_b89 fu r3 r7 (1 : Int32) st13))
  else (
  fc_bn (M_has fu (mm_I st5 27) x2 st5) fun r12 st10 =>
  M_gainOf_b89 fu r3 r7 r12 st10)))
/-! layGains -/
def M_layGains_b50F (fu : Nat) (K30 : Int32 → Int32 → Int32 → mm_S → Option mm_S) (K37 : Int32 → Int32 → Int32 → Int32 → mm_S → Option mm_S) (K50 : Int32 → Int32 → Int32 → Int32 → Int64 → Int32 → mm_S → Option mm_S) (x1 : Int32) (x2 : Int32) (x3 : Int32) (x4 : Int32) (x5 : Int64) (x7 : Int32) (st : mm_S) : Option mm_S :=
  if (mm_I st 0) ≤ x7 then (
  fc_gd (fc_ix (((10 : Int32) * x3) + x4) 90) <|
  fc_nm (mm_sL st 26 (((10 : Int32) * x3) + x4).toNatClampNeg x5) fun st11 =>
  fc_nm (x4 + (1 : Int32)) fun x12 =>
  K37 x1 x2 x3 x12 st11)
  else (
  fc_bn (M_gainOf fu x1 x7 x3 x2 x4 st) fun r15 st13 =>
  fc_nm (x5 + r15) fun x16 =>
  fc_nm (x7 + (1 : Int32)) fun x17 =>
  K50 x1 x2 x3 x4 x16 x17 st13)
def M_layGains_b50 (fu : Nat) (K30 : Int32 → Int32 → Int32 → mm_S → Option mm_S) (K37 : Int32 → Int32 → Int32 → Int32 → mm_S → Option mm_S) (n : Nat) (x1 : Int32) (x2 : Int32) (x3 : Int32) (x4 : Int32) (x5 : Int64) (x7 : Int32) (st : mm_S) : Option mm_S :=
  fc_lp (fun (K : Int32 × Int32 × Int32 × Int32 × Int64 × Int32 × mm_S → Option mm_S) a => M_layGains_b50F fu K30 K37 (fun x1 x2 x3 x4 x5 x7 st => K (x1, x2, x3, x4, x5, x7, st)) a.1 a.2.1 a.2.2.1 a.2.2.2.1 a.2.2.2.2.1 a.2.2.2.2.2.1 a.2.2.2.2.2.2) n (x1, x2, x3, x4, x5, x7, st)
def M_layGains_b37F (fu : Nat) (K30 : Int32 → Int32 → Int32 → mm_S → Option mm_S) (K37 : Int32 → Int32 → Int32 → Int32 → mm_S → Option mm_S) (x1 : Int32) (x2 : Int32) (x3 : Int32) (x4 : Int32) (st : mm_S) : Option mm_S :=
  if (9 : Int32) ≤ x4 then (
  fc_nm (x3 + (-1 : Int32)) fun x8 =>
  K30 x1 x2 x8 st)
  else (
  M_layGains_b50 fu K30 K37 fu x1 x2 x3 x4 (0 : Int64) (0 : Int32) st)
def M_layGains_b37 (fu : Nat) (K30 : Int32 → Int32 → Int32 → mm_S → Option mm_S) (n : Nat) (x1 : Int32) (x2 : Int32) (x3 : Int32) (x4 : Int32) (st : mm_S) : Option mm_S :=
  fc_lp (fun (K : Int32 × Int32 × Int32 × Int32 × mm_S → Option mm_S) a => M_layGains_b37F fu K30 (fun x1 x2 x3 x4 st => K (x1, x2, x3, x4, st)) a.1 a.2.1 a.2.2.1 a.2.2.2.1 a.2.2.2.2) n (x1, x2, x3, x4, st)
def M_layGains_b30F (fu : Nat) (K30 : Int32 → Int32 → Int32 → mm_S → Option mm_S) (x1 : Int32) (x2 : Int32) (x3 : Int32) (st : mm_S) : Option mm_S :=
  if x3 < 0 then (
  some st)
  else (
  M_layGains_b37 fu K30 fu x1 x2 x3 (0 : Int32) st)
def M_layGains_b30 (fu : Nat) (n : Nat) (x1 : Int32) (x2 : Int32) (x3 : Int32) (st : mm_S) : Option mm_S :=
  fc_lp (fun (K : Int32 × Int32 × Int32 × mm_S → Option mm_S) a => M_layGains_b30F fu (fun x1 x2 x3 st => K (x1, x2, x3, st)) a.1 a.2.1 a.2.2.1 a.2.2.2) n (x1, x2, x3, st)
def M_layGains_b2F (fu : Nat) (K2 : Int32 → Int32 → Int32 → mm_S → Option mm_S) (x1 : Int32) (x2 : Int32) (x3 : Int32) (st : mm_S) : Option mm_S :=
  if (9 : Int32) ≤ x3 then (
  fc_nm (x2 - (1 : Int32)) fun x2 =>
  M_layGains_b30 fu fu x1 x2 x2 st)
  else (
  fc_gd (fc_ix (((10 : Int32) * x2) + x3) 90) <|
  fc_nm (mm_sL st 26 (((10 : Int32) * x2) + x3).toNatClampNeg (0 : Int64)) fun st4 =>
  fc_nm (x3 + (1 : Int32)) fun x5 =>
  K2 x1 x2 x5 st4)
def M_layGains_b2 (fu : Nat) (n : Nat) (x1 : Int32) (x2 : Int32) (x3 : Int32) (st : mm_S) : Option mm_S :=
  fc_lp (fun (K : Int32 × Int32 × Int32 × mm_S → Option mm_S) a => M_layGains_b2F fu (fun x1 x2 x3 st => K (x1, x2, x3, st)) a.1 a.2.1 a.2.2.1 a.2.2.2) n (x1, x2, x3, st)
def M_layGains (fu : Nat) (x1 : Int32) (x2 : Int32) (st : mm_S) : Option mm_S :=
  M_layGains_b2 fu fu x1 x2 (0 : Int32) st
/-! divisor -/
def M_divisor_b17F (fu : Nat) (K17 : Int64 → Int64 → mm_S → Option (Int64 × mm_S)) (x5 : Int64) (x7 : Int64) (st : mm_S) : Option (Int64 × mm_S) :=
  if (lg_cmp x7 (0 : Int64)) = 0 then (
  some (x5, st))
  else (
  fc_gd (fc_nzl x7) <|
  fc_nm (x5 - x5 / x7 * x7) fun x4 =>
  K17 x7 x4 st)
def M_divisor_b17 (fu : Nat) (n : Nat) (x5 : Int64) (x7 : Int64) (st : mm_S) : Option (Int64 × mm_S) :=
  fc_lp (fun (K : Int64 × Int64 × mm_S → Option (Int64 × mm_S)) a => M_divisor_b17F fu (fun x5 x7 st => K (x5, x7, st)) a.1 a.2.1 a.2.2) n (x5, x7, st)
def M_divisor_b12 (fu : Nat) (x3 : Int64) (s0 : Int64) (st : mm_S) : Option (Int64 × mm_S) :=
  M_divisor_b17 fu fu s0 x3 st
def M_divisor (fu : Nat) (x1 : Int64) (x3 : Int64) (st : mm_S) : Option (Int64 × mm_S) :=
  if 0 ≤ (lg_cmp x1 (0 : Int64)) then (
  M_divisor_b12 fu x3 x1 st)
  else (
  M_divisor_b12 fu x3 (-x1) st)
/-! lowest -/
def M_lowest (fu : Nat) (x1 : Int64) (x3 : Int64) (x5 : Int32) (st : mm_S) : Option (Int64 × mm_S) :=
  fc_bn (M_divisor fu x1 x3 st) fun r3 st1 =>
  if x5 = 0 then (
  fc_gd (fc_nzl r3) <|
  some ((x1 / r3), st1))
  else (
  fc_gd (fc_nzl r3) <|
  some ((x3 / r3), st1))
/-! isYears -/
def M_isYears (fu : Nat) (x1 : Int32) (st : mm_S) : Option (Int32 × mm_S) :=
  fc_bn (M_in fu x1 (0 : Int32) (8 : Int32) st) fun r3 st1 =>
  fc_gd (fc_zb r3) <|
  some (r3, st1)
/-! isAsked -/
def M_isAsked (fu : Nat) (x1 : Int32) (x2 : Int32) (st : mm_S) : Option (Int32 × mm_S) :=
  fc_bn (M_isYears fu x1 st) fun r3 st1 =>
  if r3 = 0 then (
  some ((0 : Int32), st1))
  else (
  fc_bn (M_in fu x2 (0 : Int32) (1 : Int32) st1) fun r7 st5 =>
  if r7 = 0 then (
  some ((0 : Int32), st5))
  else (
  if (mm_I st5 0) ≤ 0 then (
  some ((0 : Int32), st5))
  else (
  some ((1 : Int32), st5))))
/-! mean -/
def M_mean (fu : Nat) (x1 : Int32) (x2 : Int32) (st : mm_S) : Option (Int64 × mm_S) :=
  fc_bn (M_isAsked fu x1 x2 st) fun r3 st1 =>
  if r3 = 0 then (
  some ((-9223372036854775808 : Int64), st1))
  else (
  fc_bv (M_layGains fu (0 : Int32) x1 st1) fun st5 =>
  fc_gd (fc_ix (mm_I st5 1) 90) <|
  fc_bn (M_ways fu x1 st5) fun r10 st8 =>
  fc_bn (M_lowest fu (mm_L st5 26 (mm_I st5 1).toNatClampNeg) r10 x2 st8) fun r13 st11 =>
  some (r13, st11))
/-! price -/
def M_price (fu : Nat) (x1 : Int32) (x2 : Int32) (st : mm_S) : Option (Int64 × mm_S) :=
  fc_bn (M_isAsked fu x1 x2 st) fun r3 st1 =>
  if r3 = 0 then (
  some ((-9223372036854775808 : Int64), st1))
  else (
  if (mm_I st1 1) = (8 : Int32) then (
  some ((-9223372036854775808 : Int64), st1))
  else (
  fc_bv (M_layGains fu (0 : Int32) x1 st1) fun st6 =>
  fc_gd (fc_ix ((mm_I st6 1) + (1 : Int32)) 90) <|
  fc_gd (fc_ix (mm_I st6 1) 90) <|
  fc_bn (M_ways fu x1 st6) fun r12 st10 =>
  fc_bn (M_lowest fu ((mm_L st6 26 ((mm_I st6 1) + (1 : Int32)).toNatClampNeg) - (mm_L st6 26 (mm_I st6 1).toNatClampNeg)) r12 x2 st10) fun r15 st13 =>
  some (r15, st13)))
/-! greedy -/
def M_greedy (fu : Nat) (x1 : Int32) (x2 : Int32) (st : mm_S) : Option (Int64 × mm_S) :=
  fc_bn (M_isAsked fu x1 x2 st) fun r3 st1 =>
  if r3 = 0 then (
  some ((-9223372036854775808 : Int64), st1))
  else (
  fc_bv (M_layGains fu (1 : Int32) x1 st1) fun st5 =>
  fc_gd (fc_ix (mm_I st5 1) 90) <|
  fc_bn (M_ways fu x1 st5) fun r10 st8 =>
  fc_bn (M_lowest fu (mm_L st5 26 (mm_I st5 1).toNatClampNeg) r10 x2 st8) fun r13 st11 =>
  some (r13, st11))
/-! only -/
def M_only (fu : Nat) (x1 : Int32) (x2 : Int32) (x3 : Int32) (st : mm_S) : Option (Int64 × mm_S) :=
  fc_bn (M_in fu x1 (0 : Int32) (63 : Int32) st) fun r3 st1 =>
  if r3 = 0 then (
  some ((-9223372036854775808 : Int64), st1))
  else (
  fc_bn (M_isAsked fu x2 x3 st1) fun r7 st5 =>
  if r7 = 0 then (
  some ((-9223372036854775808 : Int64), st5))
  else (
  fc_nm (mm_sI st5 27 x1) fun st9 =>
  fc_bv (M_layGains fu (2 : Int32) x2 st9) fun st10 =>
  fc_gd (fc_ix (mm_I st10 1) 90) <|
  fc_bn (M_ways fu x2 st10) fun r15 st13 =>
  fc_bn (M_lowest fu (mm_L st10 26 (mm_I st10 1).toNatClampNeg) r15 x3 st13) fun r18 st16 =>
  some (r18, st16)))
/-! chosen -/
def M_chosen_b86 (fu : Nat) (K29 : Int32 → Int32 → Int64 → Int32 → mm_S → Option (Int32 × mm_S)) (x1 : Int32) (x2 : Int32) (x3 : Int64) (x5 : Int32) (st : mm_S) : Option (Int32 × mm_S) :=
  fc_nm (x5 + (1 : Int32)) fun x15 =>
  K29 x1 x2 x3 x15 st
def M_chosen_b73 (fu : Nat) (K29 : Int32 → Int32 → Int64 → Int32 → mm_S → Option (Int32 × mm_S)) (x1 : Int32) (x5 : Int32) (st : mm_S) : Option (Int32 × mm_S) :=
  fc_gd (fc_ix (mm_I st 1) 90) <|
  fc_nm (mm_L st 26 (mm_I st 1).toNatClampNeg) fun x14 =>
  M_chosen_b86 fu K29 x1 x5 x14 x5 st
def M_chosen_b29F (fu : Nat) (K29 : Int32 → Int32 → Int64 → Int32 → mm_S → Option (Int32 × mm_S)) (x1 : Int32) (x2 : Int32) (x3 : Int64) (x5 : Int32) (st : mm_S) : Option (Int32 × mm_S) :=
  if ((1 : Int32) <<< ((mm_I st 0) &&& 31)) ≤ x5 then (
  some (x2, st))
  else (
  fc_nm (mm_sI st 27 x5) fun st7 =>
  fc_bv (M_layGains fu (2 : Int32) x1 st7) fun st8 =>
  if x2 < 0 then (
  M_chosen_b73 fu K29 x1 x5 st8)
  else (
  fc_gd (fc_ix (mm_I st8 1) 90) <|
  if 0 < (lg_cmp (mm_L st8 26 (mm_I st8 1).toNatClampNeg) x3) then (
  M_chosen_b73 fu K29 x1 x5 st8)
  else (
  M_chosen_b86 fu K29 x1 x2 x3 x5 st8)))
def M_chosen_b29 (fu : Nat) (n : Nat) (x1 : Int32) (x2 : Int32) (x3 : Int64) (x5 : Int32) (st : mm_S) : Option (Int32 × mm_S) :=
  fc_lp (fun (K : Int32 × Int32 × Int64 × Int32 × mm_S → Option (Int32 × mm_S)) a => M_chosen_b29F fu (fun x1 x2 x3 x5 st => K (x1, x2, x3, x5, st)) a.1 a.2.1 a.2.2.1 a.2.2.2.1 a.2.2.2.2) n (x1, x2, x3, x5, st)
def M_chosen (fu : Nat) (x1 : Int32) (st : mm_S) : Option (Int32 × mm_S) :=
  fc_bn (M_isYears fu x1 st) fun r3 st1 =>
  if r3 = 0 then (
  some ((-2 : Int32), st1))
  else (
  if (mm_I st1 0) = 0 then (
  some ((-5 : Int32), st1))
  else (
  M_chosen_b29 fu fu x1 (-5 : Int32) (0 : Int64) (0 : Int32) st1))
/-! wise -/
def M_wise (fu : Nat) (x1 : Int32) (x2 : Int32) (st : mm_S) : Option (Int32 × mm_S) :=
  fc_bn (M_isNeed fu x1 st) fun r3 st1 =>
  if r3 = 0 then (
  some ((-1 : Int32), st1))
  else (
  fc_bn (M_in fu x2 (1 : Int32) (8 : Int32) st1) fun r7 st5 =>
  if r7 = 0 then (
  some ((-2 : Int32), st5))
  else (
  if (mm_I st5 1) = 0 then (
  some ((0 : Int32), st5))
  else (
  fc_bv (M_layGains fu (0 : Int32) x2 st5) fun st10 =>
  fc_bn (M_ifServed fu x1 (0 : Int32) x2 (mm_I st10 1) st10) fun r14 st12 =>
  fc_bn (M_ifSpared fu (0 : Int32) x2 (mm_I st12 1) st12) fun r17 st15 =>
  if (lg_cmp r14 r17) ≤ 0 then (
  some ((0 : Int32), st15))
  else (
  some ((1 : Int32), st15)))))
/-! spent -/
def M_spent_b135 (fu : Nat) (K57 : Int32 → Int32 → Int32 → mm_S → Option (Int64 × mm_S)) (K64 : Int32 → Int32 → Int32 → Int32 → mm_S → Option (Int64 × mm_S)) (K77 : Int32 → Int32 → Int32 → Int32 → Int64 → Int32 → mm_S → Option (Int64 × mm_S)) (x1 : Int32) (x2 : Int32) (x3 : Int32) (x4 : Int32) (x7 : Int32) (s0 : Int32) (s1 : Int32) (s3 : Int64) (st : mm_S) : Option (Int64 × mm_S) :=
  fc_gd (fc_ix (s1 + s0) 90) <|
  fc_nm (s3 + (mm_L st 28 (s1 + s0).toNatClampNeg)) fun x36 =>
  fc_nm (x7 + (1 : Int32)) fun x37 =>
  K77 x1 x2 x3 x4 x36 x37 st
def M_spent_b133 (fu : Nat) (K57 : Int32 → Int32 → Int32 → mm_S → Option (Int64 × mm_S)) (K64 : Int32 → Int32 → Int32 → Int32 → mm_S → Option (Int64 × mm_S)) (K77 : Int32 → Int32 → Int32 → Int32 → Int64 → Int32 → mm_S → Option (Int64 × mm_S)) (x1 : Int32) (x2 : Int32) (x3 : Int32) (x4 : Int32) (x7 : Int32) (s0 : Int32) (s2 : Int64) (st : mm_S) : Option (Int64 × mm_S) :=
  M_spent_b135 fu K57 K64 K77 x1 x2 x3 x4 x7 x4 s0 s2 st
def M_spent_b77F (fu : Nat) (K57 : Int32 → Int32 → Int32 → mm_S → Option (Int64 × mm_S)) (K64 : Int32 → Int32 → Int32 → Int32 → mm_S → Option (Int64 × mm_S)) (K77 : Int32 → Int32 → Int32 → Int32 → Int64 → Int32 → mm_S → Option (Int64 × mm_S)) (x1 : Int32) (x2 : Int32) (x3 : Int32) (x4 : Int32) (x5 : Int64) (x7 : Int32) (st : mm_S) : Option (Int64 × mm_S) :=
  if (mm_I st 0) ≤ x7 then (
  fc_gd (fc_ix (((10 : Int32) * x3) + x4) 90) <|
  fc_nm (mm_sL st 28 (((10 : Int32) * x3) + x4).toNatClampNeg x5) fun st25 =>
  fc_nm (x4 + (1 : Int32)) fun x26 =>
  K64 x1 x2 x3 x26 st25)
  else (
  if x4 ≤ 0 then (
  M_spent_b133 fu K57 K64 K77 x1 x2 x3 x4 x7 (((10 : Int32) * x3) + (10 : Int32)) x5 st)
  else (
  fc_bn (M_ifServed fu x7 x3 x1 x4 st) fun r30 st28 =>
  fc_bn (M_ifSpared fu x3 x1 x4 st28) fun r33 st31 =>
  if (lg_cmp r30 r33) ≤ 0 then (
  M_spent_b133 fu K57 K64 K77 x1 x2 x3 x4 x7 (((10 : Int32) * x3) + (10 : Int32)) x5 st31)
  else (
  M_spent_b135 fu K57 K64 K77 x1 x2 x3 x4 x7 (x4 - (1 : Int32)) (((10 : Int32) * x3) + (10 : Int32)) x5 st31)))
def M_spent_b77 (fu : Nat) (K57 : Int32 → Int32 → Int32 → mm_S → Option (Int64 × mm_S)) (K64 : Int32 → Int32 → Int32 → Int32 → mm_S → Option (Int64 × mm_S)) (n : Nat) (x1 : Int32) (x2 : Int32) (x3 : Int32) (x4 : Int32) (x5 : Int64) (x7 : Int32) (st : mm_S) : Option (Int64 × mm_S) :=
  fc_lp (fun (K : Int32 × Int32 × Int32 × Int32 × Int64 × Int32 × mm_S → Option (Int64 × mm_S)) a => M_spent_b77F fu K57 K64 (fun x1 x2 x3 x4 x5 x7 st => K (x1, x2, x3, x4, x5, x7, st)) a.1 a.2.1 a.2.2.1 a.2.2.2.1 a.2.2.2.2.1 a.2.2.2.2.2.1 a.2.2.2.2.2.2) n (x1, x2, x3, x4, x5, x7, st)
def M_spent_b64F (fu : Nat) (K57 : Int32 → Int32 → Int32 → mm_S → Option (Int64 × mm_S)) (K64 : Int32 → Int32 → Int32 → Int32 → mm_S → Option (Int64 × mm_S)) (x1 : Int32) (x2 : Int32) (x3 : Int32) (x4 : Int32) (st : mm_S) : Option (Int64 × mm_S) :=
  if (9 : Int32) ≤ x4 then (
  fc_nm (x3 + (-1 : Int32)) fun x22 =>
  K57 x1 x2 x22 st)
  else (
  M_spent_b77 fu K57 K64 fu x1 x2 x3 x4 (0 : Int64) (0 : Int32) st)
def M_spent_b64 (fu : Nat) (K57 : Int32 → Int32 → Int32 → mm_S → Option (Int64 × mm_S)) (n : Nat) (x1 : Int32) (x2 : Int32) (x3 : Int32) (x4 : Int32) (st : mm_S) : Option (Int64 × mm_S) :=
  fc_lp (fun (K : Int32 × Int32 × Int32 × Int32 × mm_S → Option (Int64 × mm_S)) a => M_spent_b64F fu K57 (fun x1 x2 x3 x4 st => K (x1, x2, x3, x4, st)) a.1 a.2.1 a.2.2.1 a.2.2.2.1 a.2.2.2.2) n (x1, x2, x3, x4, st)
def M_spent_b57F (fu : Nat) (K57 : Int32 → Int32 → Int32 → mm_S → Option (Int64 × mm_S)) (x1 : Int32) (x2 : Int32) (x3 : Int32) (st : mm_S) : Option (Int64 × mm_S) :=
  if x3 < 0 then (
  fc_gd (fc_ix (mm_I st 1) 90) <|
  fc_bn (M_ways fu x1 st) fun r14 st12 =>
  fc_bn (M_lowest fu (mm_L st 28 (mm_I st 1).toNatClampNeg) r14 x2 st12) fun r17 st15 =>
  some (r17, st15))
  else (
  M_spent_b64 fu K57 fu x1 x2 x3 (0 : Int32) st)
def M_spent_b57 (fu : Nat) (n : Nat) (x1 : Int32) (x2 : Int32) (x3 : Int32) (st : mm_S) : Option (Int64 × mm_S) :=
  fc_lp (fun (K : Int32 × Int32 × Int32 × mm_S → Option (Int64 × mm_S)) a => M_spent_b57F fu (fun x1 x2 x3 st => K (x1, x2, x3, st)) a.1 a.2.1 a.2.2.1 a.2.2.2) n (x1, x2, x3, st)
def M_spent_b46 (fu : Nat) (K21 : Int32 → Int32 → Int32 → mm_S → Option (Int64 × mm_S)) (x1 : Int32) (x2 : Int32) (x3 : Int32) (s0 : Int64) (s1 : Int32) (st : mm_S) : Option (Int64 × mm_S) :=
  fc_gd (fc_ix s1 90) <|
  fc_nm (mm_sL st 28 s1.toNatClampNeg s0) fun st19 =>
  fc_nm (x3 + (1 : Int32)) fun x20 =>
  K21 x1 x2 x20 st19
def M_spent_b21F (fu : Nat) (K21 : Int32 → Int32 → Int32 → mm_S → Option (Int64 × mm_S)) (x1 : Int32) (x2 : Int32) (x3 : Int32) (st : mm_S) : Option (Int64 × mm_S) :=
  if (9 : Int32) ≤ x3 then (
  fc_nm (x1 - (1 : Int32)) fun x8 =>
  M_spent_b57 fu fu x1 x2 x8 st)
  else (
  if x3 = 0 then (
  M_spent_b46 fu K21 x1 x2 x3 (1 : Int64) (((10 : Int32) * x1) + x3) st)
  else (
  M_spent_b46 fu K21 x1 x2 x3 (0 : Int64) (((10 : Int32) * x1) + x3) st))
def M_spent_b21 (fu : Nat) (n : Nat) (x1 : Int32) (x2 : Int32) (x3 : Int32) (st : mm_S) : Option (Int64 × mm_S) :=
  fc_lp (fun (K : Int32 × Int32 × Int32 × mm_S → Option (Int64 × mm_S)) a => M_spent_b21F fu (fun x1 x2 x3 st => K (x1, x2, x3, st)) a.1 a.2.1 a.2.2.1 a.2.2.2) n (x1, x2, x3, st)
def M_spent (fu : Nat) (x1 : Int32) (x2 : Int32) (st : mm_S) : Option (Int64 × mm_S) :=
  fc_bn (M_isAsked fu x1 x2 st) fun r3 st1 =>
  if r3 = 0 then (
  some ((-9223372036854775808 : Int64), st1))
  else (
  fc_bv (M_layGains fu (0 : Int32) x1 st1) fun st5 =>
  M_spent_b21 fu fu x1 x2 (0 : Int32) st5)
/-! threshold -/
def M_threshold_b51F (fu : Nat) (K51 : Int32 → Int64 → Int32 → mm_S → Option (Int32 × mm_S)) (x1 : Int32) (x2 : Int64) (x4 : Int32) (st : mm_S) : Option (Int32 × mm_S) :=
  if (1000 : Int32) ≤ x4 then (
  some ((-5 : Int32), st))
  else (
  fc_bn (M_ways fu (x1 - (1 : Int32)) st) fun r15 st13 =>
  fc_bn (M_keep fu st13) fun r18 st16 =>
  fc_gd (fc_ix (((10 : Int32) + (mm_I st16 1)) - (1 : Int32)) 90) <|
  if (lg_cmp ((r15 * (((x4 - (r18 * ((mm_I st16 1) - (1 : Int32))))).toInt64)) + (mm_L st16 26 (((10 : Int32) + (mm_I st16 1)) - (1 : Int32)).toNatClampNeg)) x2) ≤ 0 then (
  fc_nm (x4 + (1 : Int32)) fun x21 =>
  K51 x1 x2 x21 st16)
  else (
  some (x4, st16)))
def M_threshold_b51 (fu : Nat) (n : Nat) (x1 : Int32) (x2 : Int64) (x4 : Int32) (st : mm_S) : Option (Int32 × mm_S) :=
  fc_lp (fun (K : Int32 × Int64 × Int32 × mm_S → Option (Int32 × mm_S)) a => M_threshold_b51F fu (fun x1 x2 x4 st => K (x1, x2, x4, st)) a.1 a.2.1 a.2.2.1 a.2.2.2) n (x1, x2, x4, st)
def M_threshold (fu : Nat) (x1 : Int32) (st : mm_S) : Option (Int32 × mm_S) :=
  fc_bn (M_in fu x1 (1 : Int32) (8 : Int32) st) fun r3 st1 =>
  if r3 = 0 then (
  some ((-2 : Int32), st1))
  else (
  if (mm_I st1 1) = 0 then (
  some ((-5 : Int32), st1))
  else (
  if (mm_I st1 0) = 0 then (
  some ((-5 : Int32), st1))
  else (
  fc_bv (M_layGains fu (0 : Int32) x1 st1) fun st7 =>
  fc_bn (M_ifSpared fu (0 : Int32) x1 (mm_I st7 1) st7) fun r11 st9 =>
  M_threshold_b51 fu fu x1 r11 (0 : Int32) st9)))
/-! century -/
def M_century (fu : Nat) (x1 : Int32) (st : mm_S) : Option (Int32 × mm_S) :=
  if x1 = (-1 : Int32) then (
  fc_nm (mm_sI st 29 (0 : Int32)) fun st10 =>
  some ((0 : Int32), st10))
  else (
  fc_bn (M_isNeed fu x1 st) fun r4 st2 =>
  if r4 = 0 then (
  some ((-1 : Int32), st2))
  else (
  if (mm_I st2 29) = (8 : Int32) then (
  some ((-4 : Int32), st2))
  else (
  fc_gd (fc_ix (mm_I st2 29) 8) <|
  fc_nm (mm_sG st2 30 (mm_I st2 29).toNatClampNeg x1) fun st8 =>
  fc_nm (mm_sI st8 29 ((mm_I st8 29) + (1 : Int32))) fun st9 =>
  some ((mm_I st9 29), st9))))
/-! gainBy -/
def M_gainBy_b58 (fu : Nat) (K10 : Int32 → Int32 → Int32 → Int32 → mm_S → Option (Int32 × mm_S)) (x1 : Int32) (x2 : Int32) (x3 : Int32) (x4 : Int32) (st : mm_S) : Option (Int32 × mm_S) :=
  fc_bn (M_keep fu st) fun r16 st14 =>
  fc_nm (x3 - (r16 * x2)) fun x17 =>
  fc_nm (x4 + (1 : Int32)) fun x18 =>
  K10 x1 x2 x17 x18 st14
def M_gainBy_b10F (fu : Nat) (K10 : Int32 → Int32 → Int32 → Int32 → mm_S → Option (Int32 × mm_S)) (x1 : Int32) (x2 : Int32) (x3 : Int32) (x4 : Int32) (st : mm_S) : Option (Int32 × mm_S) :=
  if (mm_I st 29) ≤ x4 then (
  some (x3, st))
  else (
  fc_bn (M_has fu x1 x4 st) fun r5 st3 =>
  if r5 = 0 then (
  M_gainBy_b58 fu K10 x1 x2 x3 x4 st3)
  else (
  if x2 ≤ 0 then (
  M_gainBy_b58 fu K10 x1 x2 x3 x4 st3)
  else (
  fc_gd (fc_ix x4 8) <|
  fc_bn (M_worthOf fu (mm_G st3 30 x4.toNatClampNeg) ((mm_I st3 3) + x4) x2 st3) fun r11 st9 =>
  fc_nm (x3 + r11) fun x12 =>
  fc_nm (x2 + (-1 : Int32)) fun x13 =>
  M_gainBy_b58 fu K10 x1 x13 x12 x4 st9)))
def M_gainBy_b10 (fu : Nat) (n : Nat) (x1 : Int32) (x2 : Int32) (x3 : Int32) (x4 : Int32) (st : mm_S) : Option (Int32 × mm_S) :=
  fc_lp (fun (K : Int32 × Int32 × Int32 × Int32 × mm_S → Option (Int32 × mm_S)) a => M_gainBy_b10F fu (fun x1 x2 x3 x4 st => K (x1, x2, x3, x4, st)) a.1 a.2.1 a.2.2.1 a.2.2.2.1 a.2.2.2.2) n (x1, x2, x3, x4, st)
def M_gainBy (fu : Nat) (x1 : Int32) (st : mm_S) : Option (Int32 × mm_S) :=
  fc_nm (mm_I st 1) fun x1 =>
  M_gainBy_b10 fu fu x1 x1 (0 : Int32) (0 : Int32) st
/-! bestSet -/
def M_bestSet_b41 (fu : Nat) (K4 : Int32 → Int32 → mm_S → Option (Int32 × mm_S)) (x1 : Int32) (x2 : Int32) (st : mm_S) : Option (Int32 × mm_S) :=
  fc_nm (x2 + (1 : Int32)) fun x13 =>
  K4 x1 x13 st
def M_bestSet_b4F (fu : Nat) (K4 : Int32 → Int32 → mm_S → Option (Int32 × mm_S)) (x1 : Int32) (x2 : Int32) (st : mm_S) : Option (Int32 × mm_S) :=
  if ((1 : Int32) <<< ((mm_I st 29) &&& 31)) ≤ x2 then (
  some (x1, st))
  else (
  fc_bn (M_bits fu x2 st) fun r4 st2 =>
  if (mm_I st2 1) < r4 then (
  M_bestSet_b41 fu K4 x1 x2 st2)
  else (
  fc_bn (M_gainBy fu x2 st2) fun r8 st6 =>
  fc_bn (M_gainBy fu x1 st6) fun r11 st9 =>
  if r8 ≤ r11 then (
  M_bestSet_b41 fu K4 x1 x2 st9)
  else (
  M_bestSet_b41 fu K4 x2 x2 st9)))
def M_bestSet_b4 (fu : Nat) (n : Nat) (x1 : Int32) (x2 : Int32) (st : mm_S) : Option (Int32 × mm_S) :=
  fc_lp (fun (K : Int32 × Int32 × mm_S → Option (Int32 × mm_S)) a => M_bestSet_b4F fu (fun x1 x2 st => K (x1, x2, st)) a.1 a.2.1 a.2.2) n (x1, x2, st)
def M_bestSet (fu : Nat) (st : mm_S) : Option (Int32 × mm_S) :=
  M_bestSet_b4 fu fu (0 : Int32) (1 : Int32) st
/-! plan -/
def M_plan (fu : Nat) (x1 : Int32) (st : mm_S) : Option (Int32 × mm_S) :=
  fc_bn (M_in fu x1 (0 : Int32) (1 : Int32) st) fun r3 st1 =>
  if r3 = 0 then (
  some ((-10000001 : Int32), st1))
  else (
  if x1 = 0 then (
  fc_bn (M_bestSet fu st1) fun r14 st12 =>
  some (r14, st12))
  else (
  fc_bn (M_bestSet fu st1) fun r8 st6 =>
  fc_bn (M_gainBy fu r8 st6) fun r11 st9 =>
  some (r11, st9)))
/-! ends -/
def M_ends (fu : Nat) (x1 : Int32) (st : mm_S) : Option (Int32 × mm_S) :=
  fc_bn (M_in fu x1 (0 : Int32) (1 : Int32) st) fun r3 st1 =>
  if r3 = 0 then (
  some ((-10000001 : Int32), st1))
  else (
  if x1 = 0 then (
  fc_bn (M_gainBy fu (0 : Int32) st1) fun r11 st9 =>
  some (r11, st9))
  else (
  fc_bn (M_gainBy fu (255 : Int32) st1) fun r8 st6 =>
  some (r8, st6)))
/-! see -/
def M_see (fu : Nat) (x1 : Int32) (x2 : Int32) (x3 : Int32) (st : mm_S) : Option (Int32 × mm_S) :=
  if x1 = (-1 : Int32) then (
  fc_nm (mm_sI st 31 (0 : Int32)) fun st22 =>
  some ((0 : Int32), st22))
  else (
  fc_bn (M_isNeed fu x1 st) fun r4 st2 =>
  if r4 = 0 then (
  some ((-1 : Int32), st2))
  else (
  fc_bn (M_in fu x2 (0 : Int32) (999 : Int32) st2) fun r8 st6 =>
  if r8 = 0 then (
  some ((-2 : Int32), st6))
  else (
  fc_bn (M_in fu x3 (0 : Int32) (20 : Int32) st6) fun r12 st10 =>
  if r12 = 0 then (
  some ((-2 : Int32), st10))
  else (
  if (mm_I st10 31) = (5 : Int32) then (
  some ((-4 : Int32), st10))
  else (
  fc_gd (fc_ix (mm_I st10 31) 5) <|
  fc_nm (mm_sG st10 33 (mm_I st10 31).toNatClampNeg x1) fun st16 =>
  fc_gd (fc_ix (mm_I st16 31) 5) <|
  fc_nm (mm_sG st16 34 (mm_I st16 31).toNatClampNeg x2) fun st18 =>
  fc_gd (fc_ix (mm_I st18 31) 5) <|
  fc_nm (mm_sG st18 35 (mm_I st18 31).toNatClampNeg x3) fun st20 =>
  fc_nm (mm_sI st20 31 ((mm_I st20 31) + (1 : Int32))) fun st21 =>
  some ((mm_I st21 31), st21))))))
/-! isSeen -/
def M_isSeen_b2F (fu : Nat) (K2 : Int32 → Int32 → mm_S → Option (Int32 × mm_S)) (x1 : Int32) (x2 : Int32) (st : mm_S) : Option (Int32 × mm_S) :=
  if (mm_I st 31) ≤ x2 then (
  some ((1 : Int32), st))
  else (
  fc_gd (fc_ix x2 5) <|
  fc_gd (fc_ix x2 5) <|
  fc_bn (M_worthOf fu (mm_G st 33 x2.toNatClampNeg) ((mm_I st 3) + (mm_G st 35 x2.toNatClampNeg)) x1 st) fun r6 st4 =>
  fc_gd (fc_ix x2 5) <|
  if r6 = (mm_G st4 34 x2.toNatClampNeg) then (
  fc_nm (x2 + (1 : Int32)) fun x9 =>
  K2 x1 x9 st4)
  else (
  some ((0 : Int32), st4)))
def M_isSeen_b2 (fu : Nat) (n : Nat) (x1 : Int32) (x2 : Int32) (st : mm_S) : Option (Int32 × mm_S) :=
  fc_lp (fun (K : Int32 × Int32 × mm_S → Option (Int32 × mm_S)) a => M_isSeen_b2F fu (fun x1 x2 st => K (x1, x2, st)) a.1 a.2.1 a.2.2) n (x1, x2, st)
def M_isSeen (fu : Nat) (x1 : Int32) (st : mm_S) : Option (Int32 × mm_S) :=
  M_isSeen_b2 fu fu x1 (0 : Int32) st
/-! can -/
def M_can_b72 (fu : Nat) (K38 : Int32 → Int32 → Int32 → Int32 → Int32 → Int32 → mm_S → Option (Int32 × mm_S)) (x1 : Int32) (x2 : Int32) (x3 : Int32) (x4 : Int32) (x5 : Int32) (x6 : Int32) (st : mm_S) : Option (Int32 × mm_S) :=
  fc_nm (x6 + (-1 : Int32)) fun x22 =>
  K38 x1 x2 x3 x4 x5 x22 st
def M_can_b38F (fu : Nat) (K38 : Int32 → Int32 → Int32 → Int32 → Int32 → Int32 → mm_S → Option (Int32 × mm_S)) (x1 : Int32) (x2 : Int32) (x3 : Int32) (x4 : Int32) (x5 : Int32) (x6 : Int32) (st : mm_S) : Option (Int32 × mm_S) :=
  if x6 < 0 then (
  fc_gd (fc_ix x1 6) <|
  fc_nm (mm_sG st 5 x1.toNatClampNeg x3) fun st13 =>
  if x2 = 0 then (
  some (x4, st13))
  else (
  some (x5, st13)))
  else (
  fc_gd (fc_ix x1 6) <|
  fc_nm (mm_sG st 5 x1.toNatClampNeg x6) fun st16 =>
  fc_bn (M_isSeen fu (mm_I st16 1) st16) fun r19 st17 =>
  if r19 = 0 then (
  M_can_b72 fu K38 x1 x2 x3 x4 x5 x6 st17)
  else (
  fc_nm (x4 + (1 : Int32)) fun x21 =>
  M_can_b72 fu K38 x1 x2 x3 x21 x6 x6 st17))
def M_can_b38 (fu : Nat) (n : Nat) (x1 : Int32) (x2 : Int32) (x3 : Int32) (x4 : Int32) (x5 : Int32) (x6 : Int32) (st : mm_S) : Option (Int32 × mm_S) :=
  fc_lp (fun (K : Int32 × Int32 × Int32 × Int32 × Int32 × Int32 × mm_S → Option (Int32 × mm_S)) a => M_can_b38F fu (fun x1 x2 x3 x4 x5 x6 st => K (x1, x2, x3, x4, x5, x6, st)) a.1 a.2.1 a.2.2.1 a.2.2.2.1 a.2.2.2.2.1 a.2.2.2.2.2.1 a.2.2.2.2.2.2) n (x1, x2, x3, x4, x5, x6, st)
def M_can (fu : Nat) (x1 : Int32) (x2 : Int32) (st : mm_S) : Option (Int32 × mm_S) :=
  fc_bn (M_isNeed fu x1 st) fun r3 st1 =>
  if r3 = 0 then (
  some ((-1 : Int32), st1))
  else (
  fc_bn (M_in fu x2 (0 : Int32) (1 : Int32) st1) fun r7 st5 =>
  if r7 = 0 then (
  some ((-1 : Int32), st5))
  else (
  fc_gd (fc_ix x1 6) <|
  fc_nm (mm_G st5 5 x1.toNatClampNeg) fun x10 =>
  M_can_b38 fu fu x1 x2 x10 (0 : Int32) (-5 : Int32) (9 : Int32) st5))
/-! darked -/
def M_darked_b44 (fu : Nat) (K21 : Int32 → Int32 → Int32 → Int32 → mm_S → Option (Int32 × mm_S)) (x1 : Int32) (x2 : Int32) (x3 : Int32) (x4 : Int32) (st : mm_S) : Option (Int32 × mm_S) :=
  fc_nm (x4 + (-1 : Int32)) fun x12 =>
  K21 x1 x2 x3 x12 st
def M_darked_b21F (fu : Nat) (K21 : Int32 → Int32 → Int32 → Int32 → mm_S → Option (Int32 × mm_S)) (x1 : Int32) (x2 : Int32) (x3 : Int32) (x4 : Int32) (st : mm_S) : Option (Int32 × mm_S) :=
  if x4 < 0 then (
  if x1 = 0 then (
  some (x2, st))
  else (
  some (x3, st)))
  else (
  fc_bn (M_isSeen fu x4 st) fun r9 st7 =>
  if r9 = 0 then (
  M_darked_b44 fu K21 x1 x2 x3 x4 st7)
  else (
  fc_nm (x2 + (1 : Int32)) fun x11 =>
  M_darked_b44 fu K21 x1 x11 x4 x4 st7))
def M_darked_b21 (fu : Nat) (n : Nat) (x1 : Int32) (x2 : Int32) (x3 : Int32) (x4 : Int32) (st : mm_S) : Option (Int32 × mm_S) :=
  fc_lp (fun (K : Int32 × Int32 × Int32 × Int32 × mm_S → Option (Int32 × mm_S)) a => M_darked_b21F fu (fun x1 x2 x3 x4 st => K (x1, x2, x3, x4, st)) a.1 a.2.1 a.2.2.1 a.2.2.2.1 a.2.2.2.2) n (x1, x2, x3, x4, st)
def M_darked (fu : Nat) (x1 : Int32) (st : mm_S) : Option (Int32 × mm_S) :=
  fc_bn (M_in fu x1 (0 : Int32) (1 : Int32) st) fun r3 st1 =>
  if r3 = 0 then (
  some ((-1 : Int32), st1))
  else (
  M_darked_b21 fu fu x1 (0 : Int32) (-5 : Int32) (8 : Int32) st1)
/-! book -/
def M_book (fu : Nat) (x1 : Int32) (x2 : Int32) (st : mm_S) : Option (Int32 × mm_S) :=
  if x1 = (-1 : Int32) then (
  fc_nm (mm_sI st 32 (0 : Int32)) fun st16 =>
  some ((0 : Int32), st16))
  else (
  fc_bn (M_isNeed fu x1 st) fun r4 st2 =>
  if r4 = 0 then (
  some ((-1 : Int32), st2))
  else (
  fc_bn (M_in fu x2 (0 : Int32) (9999 : Int32) st2) fun r8 st6 =>
  if r8 = 0 then (
  some ((-2 : Int32), st6))
  else (
  if (mm_I st6 32) = (8 : Int32) then (
  some ((-4 : Int32), st6))
  else (
  fc_gd (fc_ix (mm_I st6 32) 8) <|
  fc_nm (mm_sG st6 36 (mm_I st6 32).toNatClampNeg x1) fun st12 =>
  fc_gd (fc_ix (mm_I st12 32) 8) <|
  fc_nm (mm_sG st12 37 (mm_I st12 32).toNatClampNeg x2) fun st14 =>
  fc_nm (mm_sI st14 32 ((mm_I st14 32) + (1 : Int32))) fun st15 =>
  some ((mm_I st15 32), st15)))))
/-! looked -/
def M_looked_b2F (fu : Nat) (K2 : Int32 → mm_S → Option (Int32 × mm_S)) (x1 : Int32) (st : mm_S) : Option (Int32 × mm_S) :=
  if (mm_I st 32) ≤ x1 then (
  some ((-5 : Int32), st))
  else (
  fc_gd (fc_ix x1 8) <|
  fc_gd (fc_ix (mm_G st 36 x1.toNatClampNeg) 6) <|
  fc_gd (fc_ix x1 8) <|
  if (mm_G st 6 (mm_G st 36 x1.toNatClampNeg).toNatClampNeg) = (mm_G st 37 x1.toNatClampNeg) then (
  fc_nm (x1 + (1 : Int32)) fun x6 =>
  K2 x6 st)
  else (
  some (x1, st)))
def M_looked_b2 (fu : Nat) (n : Nat) (x1 : Int32) (st : mm_S) : Option (Int32 × mm_S) :=
  fc_lp (fun (K : Int32 × mm_S → Option (Int32 × mm_S)) a => M_looked_b2F fu (fun x1 st => K (x1, st)) a.1 a.2) n (x1, st)
def M_looked (fu : Nat) (st : mm_S) : Option (Int32 × mm_S) :=
  M_looked_b2 fu fu (0 : Int32) st
/-! isTape -/
def M_isTape (fu : Nat) (x1 : Int32) (st : mm_S) : Option (Int32 × mm_S) :=
  fc_bn (M_in fu x1 (0 : Int32) (5 : Int32) st) fun r3 st1 =>
  fc_gd (fc_zb r3) <|
  some (r3, st1)
/-! judge -/
def M_judge_b34F (fu : Nat) (K34 : Int32 → Int32 → Int32 → mm_S → Option (Int32 × mm_S)) (x1 : Int32) (x2 : Int32) (x3 : Int32) (st : mm_S) : Option (Int32 × mm_S) :=
  if (mm_I st 0) ≤ x3 then (
  some ((-5 : Int32), st))
  else (
  fc_gd (fc_ix x1 6) <|
  if (mm_G st 59 x1.toNatClampNeg) < 0 then (
  some (((100 : Int32) + x3), st))
  else (
  if x2 < 0 then (
  some (((100 : Int32) + x3), st))
  else (
  fc_gd (fc_ix x1 6) <|
  if x2 ≤ (((mm_G st 60 x1.toNatClampNeg) - x3) - (1 : Int32)) then (
  fc_gd (fc_ix ((((60 : Int32) * x1) + x2) + x3) 360) <|
  fc_bn (M_worthOf fu x3 (mm_I st 3) (mm_I st 1) st) fun r18 st16 =>
  if (lg_cmp (mm_L st 61 ((((60 : Int32) * x1) + x2) + x3).toNatClampNeg) ((r18).toInt64)) = 0 then (
  fc_nm (x3 + (1 : Int32)) fun x20 =>
  K34 x1 x2 x20 st16)
  else (
  some (x3, st16)))
  else (
  some (((100 : Int32) + x3), st)))))
def M_judge_b34 (fu : Nat) (n : Nat) (x1 : Int32) (x2 : Int32) (x3 : Int32) (st : mm_S) : Option (Int32 × mm_S) :=
  fc_lp (fun (K : Int32 × Int32 × Int32 × mm_S → Option (Int32 × mm_S)) a => M_judge_b34F fu (fun x1 x2 x3 st => K (x1, x2, x3, st)) a.1 a.2.1 a.2.2.1 a.2.2.2) n (x1, x2, x3, st)
def M_judge_b32 (fu : Nat) (x1 : Int32) (x2 : Int32) (st : mm_S) : Option (Int32 × mm_S) :=
  M_judge_b34 fu fu x1 x2 (0 : Int32) st
def M_judge (fu : Nat) (x1 : Int32) (x2 : Int32) (st : mm_S) : Option (Int32 × mm_S) :=
  fc_bn (M_isTape fu x1 st) fun r3 st1 =>
  if r3 = 0 then (
  some ((-1 : Int32), st1))
  else (
  fc_gd (fc_ix x1 6) <|
  if (mm_G st1 59 x1.toNatClampNeg) < 0 then (
  M_judge_b32 fu x1 x2 st1)
  else (
  fc_gd (fc_ix x1 6) <|
  if (mm_G st1 59 x1.toNatClampNeg) = (2 : Int32) then (
  M_judge_b32 fu x1 x2 st1)
  else (
  some ((-12 : Int32), st1))))
/-! image -/
def M_image_b196F (fu : Nat) (K196 : Int32 → mm_S → Option (Int32 × mm_S)) (x1 : Int32) (st : mm_S) : Option (Int32 × mm_S) :=
  if (8 : Int32) ≤ x1 then (
  some ((mm_I st 0), st))
  else (
  fc_gd (fc_ix x1 8) <|
  fc_gd (fc_ix x1 8) <|
  fc_nm (mm_sG st 51 x1.toNatClampNeg (mm_G st 30 x1.toNatClampNeg)) fun st40 =>
  fc_gd (fc_ix x1 8) <|
  fc_gd (fc_ix x1 8) <|
  fc_nm (mm_sG st40 55 x1.toNatClampNeg (mm_G st40 36 x1.toNatClampNeg)) fun st43 =>
  fc_gd (fc_ix x1 8) <|
  fc_gd (fc_ix x1 8) <|
  fc_nm (mm_sG st43 56 x1.toNatClampNeg (mm_G st43 37 x1.toNatClampNeg)) fun st46 =>
  fc_nm (x1 + (1 : Int32)) fun x47 =>
  K196 x47 st46)
def M_image_b196 (fu : Nat) (n : Nat) (x1 : Int32) (st : mm_S) : Option (Int32 × mm_S) :=
  fc_lp (fun (K : Int32 × mm_S → Option (Int32 × mm_S)) a => M_image_b196F fu (fun x1 st => K (x1, st)) a.1 a.2) n (x1, st)
def M_image_b147F (fu : Nat) (K147 : Int32 → mm_S → Option (Int32 × mm_S)) (x1 : Int32) (st : mm_S) : Option (Int32 × mm_S) :=
  if (5 : Int32) ≤ x1 then (
  M_image_b196 fu fu (0 : Int32) st)
  else (
  fc_gd (fc_ix x1 5) <|
  fc_gd (fc_ix x1 5) <|
  fc_nm (mm_sG st 52 x1.toNatClampNeg (mm_G st 33 x1.toNatClampNeg)) fun st29 =>
  fc_gd (fc_ix x1 5) <|
  fc_gd (fc_ix x1 5) <|
  fc_nm (mm_sG st29 53 x1.toNatClampNeg (mm_G st29 34 x1.toNatClampNeg)) fun st32 =>
  fc_gd (fc_ix x1 5) <|
  fc_gd (fc_ix x1 5) <|
  fc_nm (mm_sG st32 54 x1.toNatClampNeg (mm_G st32 35 x1.toNatClampNeg)) fun st35 =>
  fc_nm (x1 + (1 : Int32)) fun x36 =>
  K147 x36 st35)
def M_image_b147 (fu : Nat) (n : Nat) (x1 : Int32) (st : mm_S) : Option (Int32 × mm_S) :=
  fc_lp (fun (K : Int32 × mm_S → Option (Int32 × mm_S)) a => M_image_b147F fu (fun x1 st => K (x1, st)) a.1 a.2) n (x1, st)
def M_image_b121F (fu : Nat) (K121 : Int32 → mm_S → Option (Int32 × mm_S)) (x1 : Int32) (st : mm_S) : Option (Int32 × mm_S) :=
  if (24 : Int32) ≤ x1 then (
  M_image_b147 fu fu (0 : Int32) st)
  else (
  fc_gd (fc_ix x1 24) <|
  fc_gd (fc_ix x1 24) <|
  fc_nm (mm_sG st 50 x1.toNatClampNeg (mm_G st 7 x1.toNatClampNeg)) fun st24 =>
  fc_nm (x1 + (1 : Int32)) fun x25 =>
  K121 x25 st24)
def M_image_b121 (fu : Nat) (n : Nat) (x1 : Int32) (st : mm_S) : Option (Int32 × mm_S) :=
  fc_lp (fun (K : Int32 × mm_S → Option (Int32 × mm_S)) a => M_image_b121F fu (fun x1 st => K (x1, st)) a.1 a.2) n (x1, st)
def M_image_b71F (fu : Nat) (K71 : Int32 → mm_S → Option (Int32 × mm_S)) (x1 : Int32) (st : mm_S) : Option (Int32 × mm_S) :=
  if (6 : Int32) ≤ x1 then (
  M_image_b121 fu fu (0 : Int32) st)
  else (
  fc_gd (fc_ix x1 6) <|
  fc_gd (fc_ix x1 6) <|
  fc_nm (mm_sG st 47 x1.toNatClampNeg (mm_G st 4 x1.toNatClampNeg)) fun st13 =>
  fc_gd (fc_ix x1 6) <|
  fc_gd (fc_ix x1 6) <|
  fc_nm (mm_sG st13 48 x1.toNatClampNeg (mm_G st13 5 x1.toNatClampNeg)) fun st16 =>
  fc_gd (fc_ix x1 6) <|
  fc_gd (fc_ix x1 6) <|
  fc_nm (mm_sG st16 49 x1.toNatClampNeg (mm_G st16 6 x1.toNatClampNeg)) fun st19 =>
  fc_nm (x1 + (1 : Int32)) fun x20 =>
  K71 x20 st19)
def M_image_b71 (fu : Nat) (n : Nat) (x1 : Int32) (st : mm_S) : Option (Int32 × mm_S) :=
  fc_lp (fun (K : Int32 × mm_S → Option (Int32 × mm_S)) a => M_image_b71F fu (fun x1 st => K (x1, st)) a.1 a.2) n (x1, st)
def M_image (fu : Nat) (st : mm_S) : Option (Int32 × mm_S) :=
  fc_nm (mm_sI st 38 (1 : Int32)) fun st1 =>
  fc_nm (mm_sI st1 39 (mm_I st1 9)) fun st2 =>
  fc_nm (mm_sI st2 40 (mm_I st2 0)) fun st3 =>
  fc_nm (mm_sI st3 41 (mm_I st3 1)) fun st4 =>
  fc_nm (mm_sI st4 42 (mm_I st4 2)) fun st5 =>
  fc_nm (mm_sI st5 43 (mm_I st5 3)) fun st6 =>
  fc_nm (mm_sI st6 44 (mm_I st6 29)) fun st7 =>
  fc_nm (mm_sI st7 45 (mm_I st7 31)) fun st8 =>
  fc_nm (mm_sI st8 46 (mm_I st8 32)) fun st9 =>
  M_image_b71 fu fu (0 : Int32) st9
/-! undo -/
def M_undo_b201F (fu : Nat) (K201 : Int32 → mm_S → Option (Int32 × mm_S)) (x1 : Int32) (st : mm_S) : Option (Int32 × mm_S) :=
  if (8 : Int32) ≤ x1 then (
  some ((mm_I st 0), st))
  else (
  fc_gd (fc_ix x1 8) <|
  fc_gd (fc_ix x1 8) <|
  fc_nm (mm_sG st 30 x1.toNatClampNeg (mm_G st 51 x1.toNatClampNeg)) fun st40 =>
  fc_gd (fc_ix x1 8) <|
  fc_gd (fc_ix x1 8) <|
  fc_nm (mm_sG st40 36 x1.toNatClampNeg (mm_G st40 55 x1.toNatClampNeg)) fun st43 =>
  fc_gd (fc_ix x1 8) <|
  fc_gd (fc_ix x1 8) <|
  fc_nm (mm_sG st43 37 x1.toNatClampNeg (mm_G st43 56 x1.toNatClampNeg)) fun st46 =>
  fc_nm (x1 + (1 : Int32)) fun x47 =>
  K201 x47 st46)
def M_undo_b201 (fu : Nat) (n : Nat) (x1 : Int32) (st : mm_S) : Option (Int32 × mm_S) :=
  fc_lp (fun (K : Int32 × mm_S → Option (Int32 × mm_S)) a => M_undo_b201F fu (fun x1 st => K (x1, st)) a.1 a.2) n (x1, st)
def M_undo_b152F (fu : Nat) (K152 : Int32 → mm_S → Option (Int32 × mm_S)) (x1 : Int32) (st : mm_S) : Option (Int32 × mm_S) :=
  if (5 : Int32) ≤ x1 then (
  M_undo_b201 fu fu (0 : Int32) st)
  else (
  fc_gd (fc_ix x1 5) <|
  fc_gd (fc_ix x1 5) <|
  fc_nm (mm_sG st 33 x1.toNatClampNeg (mm_G st 52 x1.toNatClampNeg)) fun st29 =>
  fc_gd (fc_ix x1 5) <|
  fc_gd (fc_ix x1 5) <|
  fc_nm (mm_sG st29 34 x1.toNatClampNeg (mm_G st29 53 x1.toNatClampNeg)) fun st32 =>
  fc_gd (fc_ix x1 5) <|
  fc_gd (fc_ix x1 5) <|
  fc_nm (mm_sG st32 35 x1.toNatClampNeg (mm_G st32 54 x1.toNatClampNeg)) fun st35 =>
  fc_nm (x1 + (1 : Int32)) fun x36 =>
  K152 x36 st35)
def M_undo_b152 (fu : Nat) (n : Nat) (x1 : Int32) (st : mm_S) : Option (Int32 × mm_S) :=
  fc_lp (fun (K : Int32 × mm_S → Option (Int32 × mm_S)) a => M_undo_b152F fu (fun x1 st => K (x1, st)) a.1 a.2) n (x1, st)
def M_undo_b126F (fu : Nat) (K126 : Int32 → mm_S → Option (Int32 × mm_S)) (x1 : Int32) (st : mm_S) : Option (Int32 × mm_S) :=
  if (24 : Int32) ≤ x1 then (
  M_undo_b152 fu fu (0 : Int32) st)
  else (
  fc_gd (fc_ix x1 24) <|
  fc_gd (fc_ix x1 24) <|
  fc_nm (mm_sG st 7 x1.toNatClampNeg (mm_G st 50 x1.toNatClampNeg)) fun st24 =>
  fc_nm (x1 + (1 : Int32)) fun x25 =>
  K126 x25 st24)
def M_undo_b126 (fu : Nat) (n : Nat) (x1 : Int32) (st : mm_S) : Option (Int32 × mm_S) :=
  fc_lp (fun (K : Int32 × mm_S → Option (Int32 × mm_S)) a => M_undo_b126F fu (fun x1 st => K (x1, st)) a.1 a.2) n (x1, st)
def M_undo_b76F (fu : Nat) (K76 : Int32 → mm_S → Option (Int32 × mm_S)) (x1 : Int32) (st : mm_S) : Option (Int32 × mm_S) :=
  if (6 : Int32) ≤ x1 then (
  M_undo_b126 fu fu (0 : Int32) st)
  else (
  fc_gd (fc_ix x1 6) <|
  fc_gd (fc_ix x1 6) <|
  fc_nm (mm_sG st 4 x1.toNatClampNeg (mm_G st 47 x1.toNatClampNeg)) fun st13 =>
  fc_gd (fc_ix x1 6) <|
  fc_gd (fc_ix x1 6) <|
  fc_nm (mm_sG st13 5 x1.toNatClampNeg (mm_G st13 48 x1.toNatClampNeg)) fun st16 =>
  fc_gd (fc_ix x1 6) <|
  fc_gd (fc_ix x1 6) <|
  fc_nm (mm_sG st16 6 x1.toNatClampNeg (mm_G st16 49 x1.toNatClampNeg)) fun st19 =>
  fc_nm (x1 + (1 : Int32)) fun x20 =>
  K76 x20 st19)
def M_undo_b76 (fu : Nat) (n : Nat) (x1 : Int32) (st : mm_S) : Option (Int32 × mm_S) :=
  fc_lp (fun (K : Int32 × mm_S → Option (Int32 × mm_S)) a => M_undo_b76F fu (fun x1 st => K (x1, st)) a.1 a.2) n (x1, st)
def M_undo (fu : Nat) (st : mm_S) : Option (Int32 × mm_S) :=
  if (mm_I st 38) = 0 then (
  some ((-3 : Int32), st))
  else (
  fc_nm (mm_sI st 9 (mm_I st 39)) fun st2 =>
  fc_nm (mm_sI st2 0 (mm_I st2 40)) fun st3 =>
  fc_nm (mm_sI st3 1 (mm_I st3 41)) fun st4 =>
  fc_nm (mm_sI st4 2 (mm_I st4 42)) fun st5 =>
  fc_nm (mm_sI st5 3 (mm_I st5 43)) fun st6 =>
  fc_nm (mm_sI st6 29 (mm_I st6 44)) fun st7 =>
  fc_nm (mm_sI st7 31 (mm_I st7 45)) fun st8 =>
  fc_nm (mm_sI st8 32 (mm_I st8 46)) fun st9 =>
  M_undo_b76 fu fu (0 : Int32) st9)
/-! body -/
def M_body_b19 (fu : Nat) (st : mm_S) : Option mm_S :=
  fc_nm (mm_sI st 57 ((mm_I st 57) + (1 : Int32))) fun st4 =>
  some st4
def M_body (fu : Nat) (x1 : Int32) (st : mm_S) : Option mm_S :=
  if (20 : Int32) ≤ (mm_I st 57) then (
  M_body_b19 fu st)
  else (
  fc_gd (fc_ix (mm_I st 57) 20) <|
  fc_nm (mm_sG st 58 (mm_I st 57).toNatClampNeg x1) fun st3 =>
  M_body_b19 fu st3)
/-! needDarkens -/
def M_needDarkens (fu : Nat) (x1 : Int32) (x2 : Int32) (st : mm_S) : Option (Int32 × mm_S) :=
  fc_bv (M_body fu (10 : Int32) st) fun st1 =>
  some ((x2 + x1), st1)
/-! darkensAct -/
def M_darkensAct_b40 (fu : Nat) (x1 : Int32) (x2 : Int32) (st : mm_S) : Option (Int32 × mm_S) :=
  fc_bv (M_body fu (30 : Int32) st) fun st19 =>
  fc_bn (M_needDarkens fu x1 (x2 * (3 : Int32)) st19) fun r23 st21 =>
  some (r23, st21)
def M_darkensAct_b89 (fu : Nat) (x1 : Int32) (x2 : Int32) (st : mm_S) : Option (Int32 × mm_S) :=
  fc_bn (M_needDarkens fu x1 x2 st) fun r26 st24 =>
  some (r26, st24)
def M_darkensAct (fu : Nat) (x1 : Int32) (x2 : Int32) (st : mm_S) : Option (Int32 × mm_S) :=
  fc_gd (fc_ix x1 6) <|
  fc_nm (mm_G st 4 x1.toNatClampNeg) fun x2 =>
  if x2 = (2 : Int32) then (
  M_darkensAct_b40 fu x1 x2 st)
  else (
  if x2 = (3 : Int32) then (
  M_darkensAct_b89 fu x1 x2 st)
  else (
  if x2 = (4 : Int32) then (
  fc_bv (M_body fu (50 : Int32) st) fun st6 =>
  fc_bn (M_needDarkens fu x1 x2 st6) fun r10 st8 =>
  some ((-r10), st8))
  else (
  if x2 = (5 : Int32) then (
  M_darkensAct_b40 fu x1 x2 st)
  else (
  if x2 = (6 : Int32) then (
  fc_bv (M_body fu (71 : Int32) st) fun st13 =>
  fc_bn (M_needDarkens fu x1 x2 st13) fun r17 st15 =>
  fc_gd (fc_ix x1 6) <|
  some ((r17 ^^^ (mm_G st15 5 x1.toNatClampNeg)), st15))
  else (
  M_darkensAct_b89 fu x1 x2 st)))))
/-! needPleads -/
def M_needPleads (fu : Nat) (x1 : Int32) (x2 : Int32) (st : mm_S) : Option (Int32 × mm_S) :=
  fc_bv (M_body fu (11 : Int32) st) fun st1 =>
  fc_bn (M_darkensAct fu x1 x2 st1) fun r5 st3 =>
  fc_gd (fc_ix x1 6) <|
  some ((r5 - (mm_G st3 5 x1.toNatClampNeg)), st3)
/-! siegePleads -/
def M_siegePleads (fu : Nat) (x1 : Int32) (x2 : Int32) (st : mm_S) : Option (Int32 × mm_S) :=
  fc_bv (M_body fu (20 : Int32) st) fun st1 =>
  fc_bn (M_needPleads fu x1 x2 st1) fun r5 st3 =>
  some ((r5 ^^^ (6 : Int32)), st3)
/-! pleadsAct -/
def M_pleadsAct (fu : Nat) (x1 : Int32) (x2 : Int32) (st : mm_S) : Option (Int32 × mm_S) :=
  fc_gd (fc_ix x1 6) <|
  fc_nm (mm_G st 4 x1.toNatClampNeg) fun x2 =>
  if x2 = (1 : Int32) then (
  fc_bn (M_siegePleads fu x1 x2 st) fun r6 st4 =>
  some (r6, st4))
  else (
  if x2 = (4 : Int32) then (
  fc_bv (M_body fu (51 : Int32) st) fun st8 =>
  fc_bn (M_siegePleads fu x1 (x2 + (1 : Int32)) st8) fun r12 st10 =>
  some (r12, st10))
  else (
  if x2 = (6 : Int32) then (
  fc_bv (M_body fu (70 : Int32) st) fun st14 =>
  fc_bn (M_needPleads fu x1 x2 st14) fun r18 st16 =>
  fc_bn (M_needDarkens fu x1 (2 : Int32) st16) fun r21 st19 =>
  some ((r18 + r21), st19))
  else (
  fc_bn (M_needPleads fu x1 x2 st) fun r24 st22 =>
  some (r24, st22))))
/-! needTells -/
def M_needTells (fu : Nat) (x1 : Int32) (x2 : Int32) (st : mm_S) : Option (Int32 × mm_S) :=
  fc_bv (M_body fu (12 : Int32) st) fun st1 =>
  fc_bn (M_pleadsAct fu x1 x2 st1) fun r5 st3 =>
  some ((r5 * (2 : Int32)), st3)
/-! tellsAct -/
def M_tellsAct_b36 (fu : Nat) (x1 : Int32) (x2 : Int32) (st : mm_S) : Option (Int32 × mm_S) :=
  fc_bv (M_body fu (40 : Int32) st) fun st12 =>
  fc_bn (M_needTells fu x1 x2 st12) fun r16 st14 =>
  fc_bn (M_pleadsAct fu x1 (1 : Int32) st14) fun r19 st17 =>
  some ((r16 + r19), st17)
def M_tellsAct_b73 (fu : Nat) (x1 : Int32) (x2 : Int32) (st : mm_S) : Option (Int32 × mm_S) :=
  fc_bn (M_needTells fu x1 x2 st) fun r22 st20 =>
  some (r22, st20)
def M_tellsAct (fu : Nat) (x1 : Int32) (x2 : Int32) (st : mm_S) : Option (Int32 × mm_S) :=
  fc_gd (fc_ix x1 6) <|
  fc_nm (mm_G st 4 x1.toNatClampNeg) fun x2 =>
  if x2 = (3 : Int32) then (
  M_tellsAct_b36 fu x1 x2 st)
  else (
  if x2 = (4 : Int32) then (
  M_tellsAct_b73 fu x1 x2 st)
  else (
  if x2 = (5 : Int32) then (
  fc_bv (M_body fu (60 : Int32) st) fun st6 =>
  fc_bn (M_needTells fu x1 (x2 - x1) st6) fun r10 st8 =>
  some (r10, st8))
  else (
  if x2 = (6 : Int32) then (
  M_tellsAct_b36 fu x1 x2 st)
  else (
  M_tellsAct_b73 fu x1 x2 st))))
/-! act -/
def M_act (fu : Nat) (x1 : Int32) (x2 : Int32) (x3 : Int32) (st : mm_S) : Option (Int32 × mm_S) :=
  fc_nm (mm_sI st 57 (0 : Int32)) fun st1 =>
  fc_bn (M_isNeed fu x1 st1) fun r4 st2 =>
  if r4 = 0 then (
  some ((0 : Int32), st2))
  else (
  fc_bn (M_in fu x2 (0 : Int32) (2 : Int32) st2) fun r8 st6 =>
  if r8 = 0 then (
  some ((0 : Int32), st6))
  else (
  if x2 = 0 then (
  fc_bn (M_darkensAct fu x1 x3 st6) fun r20 st18 =>
  some (r20, st18))
  else (
  if x2 = (1 : Int32) then (
  fc_bn (M_pleadsAct fu x1 x3 st6) fun r17 st15 =>
  some (r17, st15))
  else (
  fc_bn (M_tellsAct fu x1 x3 st6) fun r14 st12 =>
  some (r14, st12)))))
/-! trace -/
def M_trace (fu : Nat) (x1 : Int32) (st : mm_S) : Option (Int32 × mm_S) :=
  fc_bn (M_in fu x1 (0 : Int32) (19 : Int32) st) fun r3 st1 =>
  if r3 = 0 then (
  some ((-1 : Int32), st1))
  else (
  if (mm_I st1 57) ≤ x1 then (
  some ((-1 : Int32), st1))
  else (
  fc_gd (fc_ix x1 20) <|
  some ((mm_G st1 58 x1.toNatClampNeg), st1)))
/-! taken -/
def M_taken_b61 (fu : Nat) (x2 : Int32) (x3 : Int32) (st : mm_S) : Option (Int32 × mm_S) :=
  if x2 = (3 : Int32) then (
  if x3 = (6 : Int32) then (
  some (x3, st))
  else (
  some ((-12 : Int32), st)))
  else (
  some ((-12 : Int32), st))
def M_taken_b51 (fu : Nat) (x2 : Int32) (x3 : Int32) (st : mm_S) : Option (Int32 × mm_S) :=
  if x2 = (2 : Int32) then (
  if x3 = (5 : Int32) then (
  some (x3, st))
  else (
  M_taken_b61 fu x2 x3 st))
  else (
  M_taken_b61 fu x2 x3 st)
def M_taken (fu : Nat) (x1 : Int32) (x2 : Int32) (st : mm_S) : Option (Int32 × mm_S) :=
  fc_bn (M_in fu x2 (0 : Int32) (6 : Int32) st) fun r3 st1 =>
  if r3 = 0 then (
  some ((-2 : Int32), st1))
  else (
  fc_bn (M_isNeed fu x1 st1) fun r7 st5 =>
  if r7 = 0 then (
  some ((-11 : Int32), st5))
  else (
  fc_gd (fc_ix x1 6) <|
  fc_nm (mm_G st5 4 x1.toNatClampNeg) fun x10 =>
  if x2 = 0 then (
  some (x10, st5))
  else (
  if x10 = x2 then (
  some (x10, st5))
  else (
  if x2 = (1 : Int32) then (
  if x10 = (4 : Int32) then (
  some (x10, st5))
  else (
  M_taken_b51 fu x2 x10 st5))
  else (
  M_taken_b51 fu x2 x10 st5)))))
/-! count -/
def M_count (fu : Nat) (x1 : Int32) (st : mm_S) : Option (Int32 × mm_S) :=
  if x1 = (0 : Int32) then (
  some ((mm_I st 0), st))
  else (
  if x1 = (1 : Int32) then (
  some ((mm_I st 8), st))
  else (
  if x1 = (2 : Int32) then (
  some ((mm_I st 29), st))
  else (
  if x1 = (3 : Int32) then (
  some ((mm_I st 31), st))
  else (
  if x1 = (4 : Int32) then (
  some ((mm_I st 32), st))
  else (
  if x1 = (5 : Int32) then (
  some ((mm_I st 10), st))
  else (
  if x1 = (6 : Int32) then (
  some ((mm_I st 57), st))
  else (
  some ((-2 : Int32), st))))))))
/-! tape -/
def M_tape_b69F (fu : Nat) (K69 : Int32 → Int32 → mm_S → Option (Int32 × mm_S)) (x1 : Int32) (x4 : Int32) (st : mm_S) : Option (Int32 × mm_S) :=
  if (60 : Int32) ≤ x4 then (
  some ((1 : Int32), st))
  else (
  fc_gd (fc_ix (((60 : Int32) * x1) + x4) 360) <|
  fc_nm (mm_sL st 61 (((60 : Int32) * x1) + x4).toNatClampNeg (0 : Int64)) fun st20 =>
  fc_nm (x4 + (1 : Int32)) fun x21 =>
  K69 x1 x21 st20)
def M_tape_b69 (fu : Nat) (n : Nat) (x1 : Int32) (x4 : Int32) (st : mm_S) : Option (Int32 × mm_S) :=
  fc_lp (fun (K : Int32 × Int32 × mm_S → Option (Int32 × mm_S)) a => M_tape_b69F fu (fun x1 x4 st => K (x1, x4, st)) a.1 a.2.1 a.2.2) n (x1, x4, st)
def M_tape_b65 (fu : Nat) (x1 : Int32) (s0 : Int32) (s1 : Int32) (st : mm_S) : Option (Int32 × mm_S) :=
  fc_gd (fc_ix s1 6) <|
  fc_nm (mm_sG st 60 s1.toNatClampNeg s0) fun st17 =>
  M_tape_b69 fu fu x1 (0 : Int32) st17
def M_tape_b44 (fu : Nat) (x1 : Int32) (x2 : Int32) (x3 : Int32) (st : mm_S) : Option (Int32 × mm_S) :=
  fc_gd (fc_ix x1 6) <|
  fc_nm (mm_sG st 59 x1.toNatClampNeg x2) fun st14 =>
  if 0 ≤ x2 then (
  M_tape_b65 fu x1 x3 x1 st14)
  else (
  M_tape_b65 fu x1 (0 : Int32) x1 st14)
def M_tape_b33 (fu : Nat) (x1 : Int32) (x2 : Int32) (x3 : Int32) (st : mm_S) : Option (Int32 × mm_S) :=
  if x2 < 0 then (
  M_tape_b44 fu x1 x2 x3 st)
  else (
  if 0 ≤ x3 then (
  M_tape_b44 fu x1 x2 x3 st)
  else (
  some ((-14 : Int32), st)))
def M_tape (fu : Nat) (x1 : Int32) (x2 : Int32) (x3 : Int32) (st : mm_S) : Option (Int32 × mm_S) :=
  fc_bn (M_isTape fu x1 st) fun r3 st1 =>
  if r3 = 0 then (
  some ((-1 : Int32), st1))
  else (
  fc_bn (M_in fu x2 (-1 : Int32) (4 : Int32) st1) fun r7 st5 =>
  if r7 = 0 then (
  some ((-2 : Int32), st5))
  else (
  if x2 < 0 then (
  M_tape_b33 fu x1 x2 x3 st5)
  else (
  if x3 ≤ (60 : Int32) then (
  M_tape_b33 fu x1 x2 x3 st5)
  else (
  some ((-2 : Int32), st5)))))
/-! narrow -/
def M_narrow (fu : Nat) (x1 : Int32) (x2 : Int64) (st : mm_S) : Option (Int64 × mm_S) :=
  if x1 = 0 then (
  some (((((((x2).toInt32)).toInt8.toInt32)).toInt64), st))
  else (
  if x1 = (1 : Int32) then (
  some (((((((x2).toInt32)).toInt16.toInt32)).toInt64), st))
  else (
  if x1 = (2 : Int32) then (
  some (((((x2).toInt32)).toInt64), st))
  else (
  if x1 = (4 : Int32) then (
  if (lg_cmp x2 (0 : Int64)) = 0 then (
  some ((0 : Int64), st))
  else (
  some ((1 : Int64), st)))
  else (
  some (x2, st)))))
/-! item -/
def M_item (fu : Nat) (x1 : Int32) (x2 : Int32) (x3 : Int64) (st : mm_S) : Option (Int32 × mm_S) :=
  fc_bn (M_isTape fu x1 st) fun r3 st1 =>
  if r3 = 0 then (
  some ((-1 : Int32), st1))
  else (
  fc_gd (fc_ix x1 6) <|
  if 0 ≤ (mm_G st1 59 x1.toNatClampNeg) then (
  fc_gd (fc_ix x1 6) <|
  fc_bn (M_in fu x2 (0 : Int32) ((mm_G st1 60 x1.toNatClampNeg) - (1 : Int32)) st1) fun r10 st8 =>
  if r10 = 0 then (
  some ((-13 : Int32), st8))
  else (
  fc_gd (fc_ix x1 6) <|
  fc_bn (M_narrow fu (mm_G st8 59 x1.toNatClampNeg) x3 st8) fun r15 st13 =>
  fc_gd (fc_ix (((60 : Int32) * x1) + x2) 360) <|
  fc_nm (mm_sL st13 61 (((60 : Int32) * x1) + x2).toNatClampNeg r15) fun st17 =>
  some ((1 : Int32), st17)))
  else (
  some ((-11 : Int32), st1)))
/-! read -/
def M_read (fu : Nat) (x1 : Int32) (x2 : Int32) (st : mm_S) : Option (Int64 × mm_S) :=
  fc_bn (M_isTape fu x1 st) fun r3 st1 =>
  if r3 = 0 then (
  some ((-9223372036854775808 : Int64), st1))
  else (
  fc_gd (fc_ix x1 6) <|
  if (mm_G st1 59 x1.toNatClampNeg) < 0 then (
  some ((-9223372036854775808 : Int64), st1))
  else (
  fc_gd (fc_ix x1 6) <|
  fc_bn (M_in fu x2 (0 : Int32) ((mm_G st1 60 x1.toNatClampNeg) - (1 : Int32)) st1) fun r10 st8 =>
  if r10 = 0 then (
  some ((-9223372036854775808 : Int64), st8))
  else (
  fc_gd (fc_ix (((60 : Int32) * x1) + x2) 360) <|
  some ((mm_L st8 61 (((60 : Int32) * x1) + x2).toNatClampNeg), st8))))
/-! shift -/
def M_shift_b141F (fu : Nat) (K141 : Int32 → Int32 → Int32 → Int32 → mm_S → Option (Int32 × mm_S)) (x3 : Int32) (x4 : Int32) (x5 : Int32) (x6 : Int32) (st : mm_S) : Option (Int32 × mm_S) :=
  if x5 ≤ x6 then (
  some (x5, st))
  else (
  fc_gd (fc_ix x6 60) <|
  fc_gd (fc_ix ((((60 : Int32) * x3) + x4) + x6) 360) <|
  fc_nm (mm_sL st 61 ((((60 : Int32) * x3) + x4) + x6).toNatClampNeg (mm_L st 62 x6.toNatClampNeg)) fun st31 =>
  fc_nm (x6 + (1 : Int32)) fun x32 =>
  K141 x3 x4 x5 x32 st31)
def M_shift_b141 (fu : Nat) (n : Nat) (x3 : Int32) (x4 : Int32) (x5 : Int32) (x6 : Int32) (st : mm_S) : Option (Int32 × mm_S) :=
  fc_lp (fun (K : Int32 × Int32 × Int32 × Int32 × mm_S → Option (Int32 × mm_S)) a => M_shift_b141F fu (fun x3 x4 x5 x6 st => K (x3, x4, x5, x6, st)) a.1 a.2.1 a.2.2.1 a.2.2.2.1 a.2.2.2.2) n (x3, x4, x5, x6, st)
def M_shift_b104F (fu : Nat) (K104 : Int32 → Int32 → Int32 → Int32 → Int32 → Int32 → mm_S → Option (Int32 × mm_S)) (x1 : Int32) (x2 : Int32) (x3 : Int32) (x4 : Int32) (x5 : Int32) (x6 : Int32) (st : mm_S) : Option (Int32 × mm_S) :=
  if x5 ≤ x6 then (
  M_shift_b141 fu fu x3 x4 x5 (0 : Int32) st)
  else (
  fc_gd (fc_ix ((((60 : Int32) * x1) + x2) + x6) 360) <|
  fc_gd (fc_ix x6 60) <|
  fc_nm (mm_sL st 62 x6.toNatClampNeg (mm_L st 61 ((((60 : Int32) * x1) + x2) + x6).toNatClampNeg)) fun st26 =>
  fc_nm (x6 + (1 : Int32)) fun x27 =>
  K104 x1 x2 x3 x4 x5 x27 st26)
def M_shift_b104 (fu : Nat) (n : Nat) (x1 : Int32) (x2 : Int32) (x3 : Int32) (x4 : Int32) (x5 : Int32) (x6 : Int32) (st : mm_S) : Option (Int32 × mm_S) :=
  fc_lp (fun (K : Int32 × Int32 × Int32 × Int32 × Int32 × Int32 × mm_S → Option (Int32 × mm_S)) a => M_shift_b104F fu (fun x1 x2 x3 x4 x5 x6 st => K (x1, x2, x3, x4, x5, x6, st)) a.1 a.2.1 a.2.2.1 a.2.2.2.1 a.2.2.2.2.1 a.2.2.2.2.2.1 a.2.2.2.2.2.2) n (x1, x2, x3, x4, x5, x6, st)
def M_shift (fu : Nat) (x1 : Int32) (x2 : Int32) (x3 : Int32) (x4 : Int32) (x5 : Int32) (st : mm_S) : Option (Int32 × mm_S) :=
  fc_bn (M_isTape fu x1 st) fun r3 st1 =>
  if r3 = 0 then (
  some ((-1 : Int32), st1))
  else (
  fc_bn (M_isTape fu x3 st1) fun r7 st5 =>
  if r7 = 0 then (
  some ((-1 : Int32), st5))
  else (
  fc_gd (fc_ix x1 6) <|
  if (mm_G st5 59 x1.toNatClampNeg) < 0 then (
  some ((-11 : Int32), st5))
  else (
  fc_gd (fc_ix x3 6) <|
  if 0 ≤ (mm_G st5 59 x3.toNatClampNeg) then (
  fc_gd (fc_ix x1 6) <|
  fc_gd (fc_ix x3 6) <|
  if (mm_G st5 59 x1.toNatClampNeg) = (mm_G st5 59 x3.toNatClampNeg) then (
  if x5 < 0 then (
  some ((-13 : Int32), st5))
  else (
  if x2 < 0 then (
  some ((-13 : Int32), st5))
  else (
  if x4 < 0 then (
  some ((-13 : Int32), st5))
  else (
  fc_gd (fc_ix x1 6) <|
  if ((mm_G st5 60 x1.toNatClampNeg) - x5) < x2 then (
  some ((-13 : Int32), st5))
  else (
  fc_gd (fc_ix x3 6) <|
  if x4 ≤ ((mm_G st5 60 x3.toNatClampNeg) - x5) then (
  M_shift_b104 fu fu x1 x2 x3 x4 x5 (0 : Int32) st5)
  else (
  some ((-13 : Int32), st5)))))))
  else (
  some ((-12 : Int32), st5)))
  else (
  some ((-11 : Int32), st5)))))
end
section
/-! in -/
def tb_in : List (Nat × Instr × Nat) := [(0, .iload_n 1, 1), (1, .iload_n 2, 1), (2, .if_icmp .lt 12, 3), (5, .iload_n 1, 1), (6, .iload_n 3, 1), (7, .if_icmp .gt 7, 3), (10, .iconst 1, 1), (11, .goto 4, 3), (14, .iconst 0, 1), (15, .ireturn, 1)]
theorem td_in : tb_in.all (fun q => decide (decode cX12_in q.1 = .ok (q.2.1, q.2.2))) = true := by decide +kernel
theorem hd_in : yX12_in.cls = RX12 ∧ yX12_in.cls ≠ "java/lang/invoke/MethodHandle" ∧ yX12_in.cls ≠ "java/lang/invoke/VarHandle" ∧ (parseMethodDescriptor yX12_in.desc).map (fun d => d.parameters.length) = some 3 := by decide +kernel
theorem w_in {p : Program} {l : Launch} {e : Env} {s : State} {m : MethodId} {args : Array Value} {below : List Frame} {meth : Method} {c : Code} {D : va_G} {o : Nat} {ad : Nat → Nat} {cs : ClassId × ClassId × ClassId} {r : Int32} {st' : mm_S} (C : mm_C p s m args meth c cX12_in 4 (some .boolean) D cs) (fu : Nat) (x1 : Int32) (x2 : Int32) (x3 : Int32) (st : mm_S) (hf : M_in fu x1 x2 x3 st = some (r, st')) {H : Heap} {locs : List Loc} {ls : Array Slot} (hl : lv_has ls 4 [(0, .ref o), (1, .int x1), (2, .int x2), (3, .int x3)]) (hM : mm_H D o ad cs s.heap st H locs) : W p l e (mm_R 0 0) s m args below meth c H locs 0 0 (MQ below (mm_Qi D o ad cs r st') args s 0 0 (mm_A o ad)) (F0 m 0 ls []) := by
  unfold M_in at hf
  refine lv_iload_n C.1 C.2.1 (dd_at td_in 0 rfl) rfl (lv_at hl 1 rfl) ?_
  refine lv_iload_n C.1 C.2.1 (dd_at td_in 1 rfl) rfl (lv_at hl 2 rfl) ?_
  refine lv_icmp_lt (tgt := 14) C.1 C.2.1 (dd_at td_in 2 rfl) (by decide) (fun c1 => ?_) (fun c1 => ?_)
  · replace hf := fc_of_t hf c1
    refine lv_iconst (v := (0 : Int32)) C.1 C.2.1 (dd_at td_in 8 rfl) (by decide) ?_
    exact mm_rz C hM (dd_at td_in 9 rfl) rfl hf
  · replace hf := fc_of_f hf c1
    refine lv_iload_n C.1 C.2.1 (dd_at td_in 3 rfl) rfl (lv_at hl 1 rfl) ?_
    refine lv_iload_n C.1 C.2.1 (dd_at td_in 4 rfl) rfl (lv_at hl 3 rfl) ?_
    refine lv_icmp_gt (tgt := 14) C.1 C.2.1 (dd_at td_in 5 rfl) (by decide) (fun c2 => ?_) (fun c2 => ?_)
    · replace hf := fc_of_t hf c2
      refine lv_iconst (v := (0 : Int32)) C.1 C.2.1 (dd_at td_in 8 rfl) (by decide) ?_
      exact mm_rz C hM (dd_at td_in 9 rfl) rfl hf
    · replace hf := fc_of_f hf c2
      refine lv_iconst (v := (1 : Int32)) C.1 C.2.1 (dd_at td_in 6 rfl) (by decide) ?_
      refine lv_goto (tgt := 15) C.1 C.2.1 (dd_at td_in 7 rfl) (by decide) ?_
      exact mm_rz C hM (dd_at td_in 9 rfl) rfl hf
theorem c_in (l : Launch) (D : va_G) (o : Nat) (ad : Nat → Nat) (cs : ClassId × ClassId × ClassId) (fu : Nat) (x1 : Int32) (x2 : Int32) (x3 : Int32) (st : mm_S) : mm_Mi l D o ad cs yX12_in cX12_in 4 (some .boolean) 0 0 [.int x1, .int x2, .int x3] st (M_in fu x1 x2 x3 st) := by
  intro r st' hf
  refine mm_enter (cc := cX12_in) (nL := 4) (ret := some .boolean) (by decide) rfl (Nat.le_of_ble_eq_true rfl) ?_
  intro p e s m args below meth c ls C hl hM
  exact w_in C fu x1 x2 x3 st hf hl hM

/-! has -/
def tb_has : List (Nat × Instr × Nat) := [(0, .iload_n 1, 1), (1, .iload_n 2, 1), (2, .ishr, 1), (3, .iconst 1, 1), (4, .iand, 1), (5, .iconst 1, 1), (6, .if_icmp .ne 7, 3), (9, .iconst 1, 1), (10, .goto 4, 3), (13, .iconst 0, 1), (14, .ireturn, 1)]
theorem td_has : tb_has.all (fun q => decide (decode cX12_has q.1 = .ok (q.2.1, q.2.2))) = true := by decide +kernel
theorem hd_has : yX12_has.cls = RX12 ∧ yX12_has.cls ≠ "java/lang/invoke/MethodHandle" ∧ yX12_has.cls ≠ "java/lang/invoke/VarHandle" ∧ (parseMethodDescriptor yX12_has.desc).map (fun d => d.parameters.length) = some 2 := by decide +kernel
theorem w_has {p : Program} {l : Launch} {e : Env} {s : State} {m : MethodId} {args : Array Value} {below : List Frame} {meth : Method} {c : Code} {D : va_G} {o : Nat} {ad : Nat → Nat} {cs : ClassId × ClassId × ClassId} {r : Int32} {st' : mm_S} (C : mm_C p s m args meth c cX12_has 3 (some .boolean) D cs) (fu : Nat) (x1 : Int32) (x2 : Int32) (st : mm_S) (hf : M_has fu x1 x2 st = some (r, st')) {H : Heap} {locs : List Loc} {ls : Array Slot} (hl : lv_has ls 3 [(0, .ref o), (1, .int x1), (2, .int x2)]) (hM : mm_H D o ad cs s.heap st H locs) : W p l e (mm_R 0 0) s m args below meth c H locs 0 0 (MQ below (mm_Qi D o ad cs r st') args s 0 0 (mm_A o ad)) (F0 m 0 ls []) := by
  unfold M_has at hf
  refine lv_iload_n C.1 C.2.1 (dd_at td_has 0 rfl) rfl (lv_at hl 1 rfl) ?_
  refine lv_iload_n C.1 C.2.1 (dd_at td_has 1 rfl) rfl (lv_at hl 2 rfl) ?_
  refine lv_ishr C.1 C.2.1 (dd_at td_has 2 rfl) ?_
  refine lv_iconst (v := (1 : Int32)) C.1 C.2.1 (dd_at td_has 3 rfl) (by decide) ?_
  refine lv_iand C.1 C.2.1 (dd_at td_has 4 rfl) ?_
  refine lv_iconst (v := (1 : Int32)) C.1 C.2.1 (dd_at td_has 5 rfl) (by decide) ?_
  refine lv_icmp_ne (tgt := 13) C.1 C.2.1 (dd_at td_has 6 rfl) (by decide) (fun c1 => ?_) (fun c1 => ?_)
  · replace hf := fc_of_f hf c1
    refine lv_iconst (v := (0 : Int32)) C.1 C.2.1 (dd_at td_has 9 rfl) (by decide) ?_
    exact mm_rz C hM (dd_at td_has 10 rfl) rfl hf
  · replace hf := fc_of_t hf c1
    refine lv_iconst (v := (1 : Int32)) C.1 C.2.1 (dd_at td_has 7 rfl) (by decide) ?_
    refine lv_goto (tgt := 14) C.1 C.2.1 (dd_at td_has 8 rfl) (by decide) ?_
    exact mm_rz C hM (dd_at td_has 10 rfl) rfl hf
theorem c_has (l : Launch) (D : va_G) (o : Nat) (ad : Nat → Nat) (cs : ClassId × ClassId × ClassId) (fu : Nat) (x1 : Int32) (x2 : Int32) (st : mm_S) : mm_Mi l D o ad cs yX12_has cX12_has 3 (some .boolean) 0 0 [.int x1, .int x2] st (M_has fu x1 x2 st) := by
  intro r st' hf
  refine mm_enter (cc := cX12_has) (nL := 3) (ret := some .boolean) (by decide) rfl (Nat.le_of_ble_eq_true rfl) ?_
  intro p e s m args below meth c ls C hl hM
  exact w_has C fu x1 x2 st hf hl hM

/-! bits -/
def tb_bits : List (Nat × Instr × Nat) := [(0, .iconst 0, 1), (1, .istore_n 2, 1), (2, .iconst 0, 1), (3, .istore_n 3, 1), (4, .iload_n 3, 1), (5, .bipush 8, 2), (7, .if_icmp .ge 26, 3), (10, .iload_n 2, 1), (11, .aload_n 0, 1), (12, .iload_n 1, 1), (13, .iload_n 3, 1), (14, .invokevirtual 203, 3), (17, .ifCond .eq 7, 3), (20, .iconst 1, 1), (21, .goto 4, 3), (24, .iconst 0, 1), (25, .iadd, 1), (26, .istore_n 2, 1), (27, .iinc 3 1, 3), (30, .goto (-26), 3), (33, .iload_n 2, 1), (34, .ireturn, 1)]
theorem td_bits : tb_bits.all (fun q => decide (decode cX12_bits q.1 = .ok (q.2.1, q.2.2))) = true := by decide +kernel
theorem hd_bits : yX12_bits.cls = RX12 ∧ yX12_bits.cls ≠ "java/lang/invoke/MethodHandle" ∧ yX12_bits.cls ≠ "java/lang/invoke/VarHandle" ∧ (parseMethodDescriptor yX12_bits.desc).map (fun d => d.parameters.length) = some 1 := by decide +kernel
theorem w_bits_b25 {p : Program} {l : Launch} {e : Env} {s : State} {m : MethodId} {args : Array Value} {below : List Frame} {meth : Method} {c : Code} {D : va_G} {o : Nat} {ad : Nat → Nat} {cs : ClassId × ClassId × ClassId} {r : Int32} {st' : mm_S} (C : mm_C p s m args meth c cX12_bits 4 (some .int) D cs) (fu : Nat) (K4 : Int32 → Int32 → Int32 → mm_S → Option (Int32 × mm_S)) (hK4 : ∀ (x1 : Int32) (x2 : Int32) (x3 : Int32) (st : mm_S) (H : Heap) (locs : List Loc) (ls : Array Slot), K4 x1 x2 x3 st = some (r, st') → lv_has ls 4 [(0, .ref o), (1, .int x1), (2, .int x2), (3, .int x3)] → mm_H D o ad cs s.heap st H locs → W p l e (mm_R 1 22) s m args below meth c H locs 0 0 (MQ below (mm_Qi D o ad cs r st') args s 0 0 (mm_A o ad)) (F0 m 4 ls [])) (x1 : Int32) (x3 : Int32) (s0 : Int32) (s1 : Int32) (st : mm_S) (hf : M_bits_b25 fu K4 x1 x3 s0 s1 st = some (r, st')) {H : Heap} {locs : List Loc} {ls : Array Slot} (hl : lv_has ls 4 [(0, .ref o), (1, .int x1), (3, .int x3)]) (hM : mm_H D o ad cs s.heap st H locs) : W p l e (mm_R 1 22) s m args below meth c H locs 0 0 (MQ below (mm_Qi D o ad cs r st') args s 0 0 (mm_A o ad)) (F0 m 25 ls [.int s0, .int s1]) := by
  unfold M_bits_b25 at hf
  refine lv_iadd C.1 C.2.1 (dd_at td_bits 16 rfl) ?_
  refine lv_topi (fun x6 ex6 => ?_)
  replace hf := fc_of_nm hf x6 ex6
  refine lv_istore_n (lv' := [(2, .int x6), (0, .ref o), (1, .int x1), (3, .int x3)]) C.1 C.2.1 (dd_at td_bits 17 rfl) rfl hl (by decide) rfl (fun ls hl => ?_)
  obtain ⟨x7, ex7⟩ : ∃ y : Int32, y = x3 + (1 : Int32) := ⟨_, rfl⟩
  replace hf := fc_of_nm hf x7 ex7
  refine lv_iinc (v := x7) (lv' := [(3, .int x7), (2, .int x6), (0, .ref o), (1, .int x1)]) C.1 C.2.1 (dd_at td_bits 18 rfl) hl (k := 3) rfl (by rw [ex7]; rfl) (by decide) rfl (fun ls hl => ?_)
  refine lv_goto (tgt := 4) C.1 C.2.1 (dd_at td_bits 19 rfl) (by decide) ?_
  exact hK4 x1 x6 x7 st _ _ _ hf (lv_sub hl [2, 3, 1, 0] rfl) hM
theorem w_bits_b4F {p : Program} {l : Launch} {e : Env} {s : State} {m : MethodId} {args : Array Value} {below : List Frame} {meth : Method} {c : Code} {D : va_G} {o : Nat} {ad : Nat → Nat} {cs : ClassId × ClassId × ClassId} {r : Int32} {st' : mm_S} (C : mm_C p s m args meth c cX12_bits 4 (some .int) D cs) (fu : Nat) (K4 : Int32 → Int32 → Int32 → mm_S → Option (Int32 × mm_S)) (hK4 : ∀ (x1 : Int32) (x2 : Int32) (x3 : Int32) (st : mm_S) (H : Heap) (locs : List Loc) (ls : Array Slot), K4 x1 x2 x3 st = some (r, st') → lv_has ls 4 [(0, .ref o), (1, .int x1), (2, .int x2), (3, .int x3)] → mm_H D o ad cs s.heap st H locs → W p l e (mm_R 1 22) s m args below meth c H locs 0 0 (MQ below (mm_Qi D o ad cs r st') args s 0 0 (mm_A o ad)) (F0 m 4 ls [])) (x1 : Int32) (x2 : Int32) (x3 : Int32) (st : mm_S) (hf : M_bits_b4F fu K4 x1 x2 x3 st = some (r, st')) {H : Heap} {locs : List Loc} {ls : Array Slot} (hl : lv_has ls 4 [(0, .ref o), (1, .int x1), (2, .int x2), (3, .int x3)]) (hM : mm_H D o ad cs s.heap st H locs) : W p l e (mm_R 1 22) s m args below meth c H locs 0 0 (MQ below (mm_Qi D o ad cs r st') args s 0 0 (mm_A o ad)) (F0 m 4 ls []) := by
  unfold M_bits_b4F at hf
  refine lv_iload_n C.1 C.2.1 (dd_at td_bits 4 rfl) rfl (lv_at hl 3 rfl) ?_
  refine lv_bipush (v := (8 : Int32)) C.1 C.2.1 (dd_at td_bits 5 rfl) (by decide) ?_
  refine lv_icmp_ge (tgt := 33) C.1 C.2.1 (dd_at td_bits 6 rfl) (by decide) (fun c1 => ?_) (fun c1 => ?_)
  · replace hf := fc_of_t hf c1
    refine lv_iload_n C.1 C.2.1 (dd_at td_bits 20 rfl) rfl (lv_at hl 2 rfl) ?_
    exact mm_ri C hM (dd_at td_bits 21 rfl) hf
  · replace hf := fc_of_f hf c1
    refine lv_iload_n C.1 C.2.1 (dd_at td_bits 7 rfl) rfl (lv_at hl 2 rfl) ?_
    refine lv_aload_n C.1 C.2.1 (dd_at td_bits 8 rfl) rfl (lv_at hl 0 rfl) ?_
    refine lv_iload_n C.1 C.2.1 (dd_at td_bits 9 rfl) rfl (lv_at hl 1 rfl) ?_
    refine lv_iload_n C.1 C.2.1 (dd_at td_bits 10 rfl) rfl (lv_at hl 3 rfl) ?_
    obtain ⟨r4, st2, hx3, hf⟩ := fc_of_bn hf
    refine mm_ci (As := [.int x1, .int x3]) (rest := [.int x2]) (n := 2) C hM (c_has l D o ad cs fu x1 x3 st) (List.mem_of_getElem? (i := 13) rfl) (dd_at td_bits 11 rfl) hx3 hl.1 hd_has ⟨Nat.le_of_ble_eq_true rfl, Nat.le_of_ble_eq_true rfl⟩ rfl rfl (Nat.le_of_ble_eq_true rfl) ⟨Nat.le_refl 0, Nat.le_refl 0⟩ (fun H locs hM => ?_)
    refine lv_if_eq (tgt := 24) C.1 C.2.1 (dd_at td_bits 12 rfl) (by decide) (fun c5 => ?_) (fun c5 => ?_)
    · replace hf := fc_of_t hf c5
      refine lv_iconst (v := (0 : Int32)) C.1 C.2.1 (dd_at td_bits 15 rfl) (by decide) ?_
      exact w_bits_b25 C fu K4 hK4 x1 x3 (0 : Int32) x2 st2 hf (lv_sub hl [0, 1, 3] rfl) hM
    · replace hf := fc_of_f hf c5
      refine lv_iconst (v := (1 : Int32)) C.1 C.2.1 (dd_at td_bits 13 rfl) (by decide) ?_
      refine lv_goto (tgt := 25) C.1 C.2.1 (dd_at td_bits 14 rfl) (by decide) ?_
      exact w_bits_b25 C fu K4 hK4 x1 x3 (1 : Int32) x2 st2 hf (lv_sub hl [0, 1, 3] rfl) hM
theorem w_bits_b4 {p : Program} {l : Launch} {e : Env} {s : State} {m : MethodId} {args : Array Value} {below : List Frame} {meth : Method} {c : Code} {D : va_G} {o : Nat} {ad : Nat → Nat} {cs : ClassId × ClassId × ClassId} {r : Int32} {st' : mm_S} (C : mm_C p s m args meth c cX12_bits 4 (some .int) D cs) (fu : Nat) (n : Nat) : ∀ (x1 : Int32) (x2 : Int32) (x3 : Int32) (st : mm_S), M_bits_b4 fu n x1 x2 x3 st = some (r, st') → ∀ (H : Heap) (locs : List Loc) (ls : Array Slot), lv_has ls 4 [(0, .ref o), (1, .int x1), (2, .int x2), (3, .int x3)] → mm_H D o ad cs s.heap st H locs → W p l e (mm_R 1 22) s m args below meth c H locs 0 0 (MQ below (mm_Qi D o ad cs r st') args s 0 0 (mm_A o ad)) (F0 m 4 ls []) := by
  induction n with
  | zero => exact fun _ _ _ _ hf => fc_no hf
  | succ n ih =>
    intro x1 x2 x3 st hf H locs ls hl hM
    exact w_bits_b4F C fu (fun x1 x2 x3 st => M_bits_b4 fu n x1 x2 x3 st) (fun x1 x2 x3 st H locs ls hf hl hM => ih x1 x2 x3 st hf H locs ls hl hM) x1 x2 x3 st hf hl hM
theorem w_bits {p : Program} {l : Launch} {e : Env} {s : State} {m : MethodId} {args : Array Value} {below : List Frame} {meth : Method} {c : Code} {D : va_G} {o : Nat} {ad : Nat → Nat} {cs : ClassId × ClassId × ClassId} {r : Int32} {st' : mm_S} (C : mm_C p s m args meth c cX12_bits 4 (some .int) D cs) (fu : Nat) (x1 : Int32) (st : mm_S) (hf : M_bits fu x1 st = some (r, st')) {H : Heap} {locs : List Loc} {ls : Array Slot} (hl : lv_has ls 4 [(0, .ref o), (1, .int x1)]) (hM : mm_H D o ad cs s.heap st H locs) : W p l e (mm_R 1 22) s m args below meth c H locs 0 0 (MQ below (mm_Qi D o ad cs r st') args s 0 0 (mm_A o ad)) (F0 m 0 ls []) := by
  unfold M_bits at hf
  refine lv_iconst (v := (0 : Int32)) C.1 C.2.1 (dd_at td_bits 0 rfl) (by decide) ?_
  refine lv_istore_n (lv' := [(2, .int (0 : Int32)), (0, .ref o), (1, .int x1)]) C.1 C.2.1 (dd_at td_bits 1 rfl) rfl hl (by decide) rfl (fun ls hl => ?_)
  refine lv_iconst (v := (0 : Int32)) C.1 C.2.1 (dd_at td_bits 2 rfl) (by decide) ?_
  refine lv_istore_n (lv' := [(3, .int (0 : Int32)), (2, .int (0 : Int32)), (0, .ref o), (1, .int x1)]) C.1 C.2.1 (dd_at td_bits 3 rfl) rfl hl (by decide) rfl (fun ls hl => ?_)
  exact w_bits_b4 C fu fu x1 (0 : Int32) (0 : Int32) st hf _ _ _ (lv_sub hl [2, 3, 1, 0] rfl) hM
theorem c_bits (l : Launch) (D : va_G) (o : Nat) (ad : Nat → Nat) (cs : ClassId × ClassId × ClassId) (fu : Nat) (x1 : Int32) (st : mm_S) : mm_Mi l D o ad cs yX12_bits cX12_bits 4 (some .int) 1 22 [.int x1] st (M_bits fu x1 st) := by
  intro r st' hf
  refine mm_enter (cc := cX12_bits) (nL := 4) (ret := some .int) (by decide) rfl (Nat.le_of_ble_eq_true rfl) ?_
  intro p e s m args below meth c ls C hl hM
  exact w_bits C fu x1 st hf hl hM

/-! isNeed -/
def tb_isNeed : List (Nat × Instr × Nat) := [(0, .aload_n 0, 1), (1, .iload_n 1, 1), (2, .iconst 0, 1), (3, .aload_n 0, 1), (4, .getfield 7, 3), (7, .iconst 1, 1), (8, .isub, 1), (9, .invokevirtual 207, 3), (12, .ireturn, 1)]
theorem td_isNeed : tb_isNeed.all (fun q => decide (decode cX12_isNeed q.1 = .ok (q.2.1, q.2.2))) = true := by decide +kernel
theorem hd_isNeed : yX12_isNeed.cls = RX12 ∧ yX12_isNeed.cls ≠ "java/lang/invoke/MethodHandle" ∧ yX12_isNeed.cls ≠ "java/lang/invoke/VarHandle" ∧ (parseMethodDescriptor yX12_isNeed.desc).map (fun d => d.parameters.length) = some 1 := by decide +kernel
theorem w_isNeed {p : Program} {l : Launch} {e : Env} {s : State} {m : MethodId} {args : Array Value} {below : List Frame} {meth : Method} {c : Code} {D : va_G} {o : Nat} {ad : Nat → Nat} {cs : ClassId × ClassId × ClassId} {r : Int32} {st' : mm_S} (C : mm_C p s m args meth c cX12_isNeed 2 (some .boolean) D cs) (fu : Nat) (x1 : Int32) (st : mm_S) (hf : M_isNeed fu x1 st = some (r, st')) {H : Heap} {locs : List Loc} {ls : Array Slot} (hl : lv_has ls 2 [(0, .ref o), (1, .int x1)]) (hM : mm_H D o ad cs s.heap st H locs) : W p l e (mm_R 1 23) s m args below meth c H locs 0 0 (MQ below (mm_Qi D o ad cs r st') args s 0 0 (mm_A o ad)) (F0 m 0 ls []) := by
  unfold M_isNeed at hf
  refine lv_aload_n C.1 C.2.1 (dd_at td_isNeed 0 rfl) rfl (lv_at hl 0 rfl) ?_
  refine lv_iload_n C.1 C.2.1 (dd_at td_isNeed 1 rfl) rfl (lv_at hl 1 rfl) ?_
  refine lv_iconst (v := (0 : Int32)) C.1 C.2.1 (dd_at td_isNeed 2 rfl) (by decide) ?_
  refine lv_aload_n C.1 C.2.1 (dd_at td_isNeed 3 rfl) rfl (lv_at hl 0 rfl) ?_
  refine mm_gI C hM 0 (dd_at td_isNeed 4 rfl) (by decide) (by decide) (by decide) ?_
  refine lv_iconst (v := (1 : Int32)) C.1 C.2.1 (dd_at td_isNeed 5 rfl) (by decide) ?_
  refine lv_isub C.1 C.2.1 (dd_at td_isNeed 6 rfl) ?_
  obtain ⟨r3, st1, hx2, hf⟩ := fc_of_bn hf
  refine mm_ci (As := [.int x1, .int (0 : Int32), .int ((mm_I st 0) - (1 : Int32))]) (rest := []) (n := 3) C hM (c_in l D o ad cs fu x1 (0 : Int32) ((mm_I st 0) - (1 : Int32)) st) (List.mem_of_getElem? (i := 18) rfl) (dd_at td_isNeed 7 rfl) hx2 hl.1 hd_in ⟨Nat.le_of_ble_eq_true rfl, Nat.le_of_ble_eq_true rfl⟩ rfl rfl (Nat.le_of_ble_eq_true rfl) ⟨Nat.le_refl 0, Nat.le_refl 0⟩ (fun H locs hM => ?_)
  obtain ⟨g4, hf⟩ := fc_of_gd hf
  exact mm_rz C hM (dd_at td_isNeed 8 rfl) (fc_of_zb g4) hf
theorem c_isNeed (l : Launch) (D : va_G) (o : Nat) (ad : Nat → Nat) (cs : ClassId × ClassId × ClassId) (fu : Nat) (x1 : Int32) (st : mm_S) : mm_Mi l D o ad cs yX12_isNeed cX12_isNeed 2 (some .boolean) 1 23 [.int x1] st (M_isNeed fu x1 st) := by
  intro r st' hf
  refine mm_enter (cc := cX12_isNeed) (nL := 2) (ret := some .boolean) (by decide) rfl (Nat.le_of_ble_eq_true rfl) ?_
  intro p e s m args below meth c ls C hl hM
  exact w_isNeed C fu x1 st hf hl hM

/-! isDarks -/
def tb_isDarks : List (Nat × Instr × Nat) := [(0, .aload_n 0, 1), (1, .iload_n 1, 1), (2, .iconst 0, 1), (3, .bipush 8, 2), (5, .invokevirtual 207, 3), (8, .ireturn, 1)]
theorem td_isDarks : tb_isDarks.all (fun q => decide (decode cX12_isDarks q.1 = .ok (q.2.1, q.2.2))) = true := by decide +kernel
theorem hd_isDarks : yX12_isDarks.cls = RX12 ∧ yX12_isDarks.cls ≠ "java/lang/invoke/MethodHandle" ∧ yX12_isDarks.cls ≠ "java/lang/invoke/VarHandle" ∧ (parseMethodDescriptor yX12_isDarks.desc).map (fun d => d.parameters.length) = some 1 := by decide +kernel
theorem w_isDarks {p : Program} {l : Launch} {e : Env} {s : State} {m : MethodId} {args : Array Value} {below : List Frame} {meth : Method} {c : Code} {D : va_G} {o : Nat} {ad : Nat → Nat} {cs : ClassId × ClassId × ClassId} {r : Int32} {st' : mm_S} (C : mm_C p s m args meth c cX12_isDarks 2 (some .boolean) D cs) (fu : Nat) (x1 : Int32) (st : mm_S) (hf : M_isDarks fu x1 st = some (r, st')) {H : Heap} {locs : List Loc} {ls : Array Slot} (hl : lv_has ls 2 [(0, .ref o), (1, .int x1)]) (hM : mm_H D o ad cs s.heap st H locs) : W p l e (mm_R 1 23) s m args below meth c H locs 0 0 (MQ below (mm_Qi D o ad cs r st') args s 0 0 (mm_A o ad)) (F0 m 0 ls []) := by
  unfold M_isDarks at hf
  refine lv_aload_n C.1 C.2.1 (dd_at td_isDarks 0 rfl) rfl (lv_at hl 0 rfl) ?_
  refine lv_iload_n C.1 C.2.1 (dd_at td_isDarks 1 rfl) rfl (lv_at hl 1 rfl) ?_
  refine lv_iconst (v := (0 : Int32)) C.1 C.2.1 (dd_at td_isDarks 2 rfl) (by decide) ?_
  refine lv_bipush (v := (8 : Int32)) C.1 C.2.1 (dd_at td_isDarks 3 rfl) (by decide) ?_
  obtain ⟨r3, st1, hx2, hf⟩ := fc_of_bn hf
  refine mm_ci (As := [.int x1, .int (0 : Int32), .int (8 : Int32)]) (rest := []) (n := 3) C hM (c_in l D o ad cs fu x1 (0 : Int32) (8 : Int32) st) (List.mem_of_getElem? (i := 18) rfl) (dd_at td_isDarks 4 rfl) hx2 hl.1 hd_in ⟨Nat.le_of_ble_eq_true rfl, Nat.le_of_ble_eq_true rfl⟩ rfl rfl (Nat.le_of_ble_eq_true rfl) ⟨Nat.le_refl 0, Nat.le_refl 0⟩ (fun H locs hM => ?_)
  obtain ⟨g4, hf⟩ := fc_of_gd hf
  exact mm_rz C hM (dd_at td_isDarks 5 rfl) (fc_of_zb g4) hf
theorem c_isDarks (l : Launch) (D : va_G) (o : Nat) (ad : Nat → Nat) (cs : ClassId × ClassId × ClassId) (fu : Nat) (x1 : Int32) (st : mm_S) : mm_Mi l D o ad cs yX12_isDarks cX12_isDarks 2 (some .boolean) 1 23 [.int x1] st (M_isDarks fu x1 st) := by
  intro r st' hf
  refine mm_enter (cc := cX12_isDarks) (nL := 2) (ret := some .boolean) (by decide) rfl (Nat.le_of_ble_eq_true rfl) ?_
  intro p e s m args below meth c ls C hl hM
  exact w_isDarks C fu x1 st hf hl hM

/-! need -/
def tb_need : List (Nat × Instr × Nat) := [(0, .aload_n 0, 1), (1, .iload_n 1, 1), (2, .iconst 0, 1), (3, .bipush 6, 2), (5, .invokevirtual 207, 3), (8, .ifCond .ne 5, 3), (11, .iconst (-1), 1), (12, .ireturn, 1), (13, .aload_n 0, 1), (14, .iload_n 2, 1), (15, .iconst 0, 1), (16, .bipush 9, 2), (18, .invokevirtual 207, 3), (21, .ifCond .ne 6, 3), (24, .bipush (-2), 2), (26, .ireturn, 1), (27, .aload_n 0, 1), (28, .getfield 7, 3), (31, .bipush 6, 2), (33, .if_icmp .ne 6, 3), (36, .bipush (-4), 2), (38, .ireturn, 1), (39, .aload_n 0, 1), (40, .getfield 22, 3), (43, .aload_n 0, 1), (44, .getfield 7, 3), (47, .iload_n 1, 1), (48, .iastore, 1), (49, .aload_n 0, 1), (50, .getfield 26, 3), (53, .aload_n 0, 1), (54, .getfield 7, 3), (57, .iload_n 2, 1), (58, .iastore, 1), (59, .aload_n 0, 1), (60, .getfield 29, 3), (63, .aload_n 0, 1), (64, .getfield 7, 3), (67, .iconst 0, 1), (68, .iastore, 1), (69, .iconst 0, 1), (70, .istore_n 3, 1), (71, .iload_n 3, 1), (72, .iconst 4, 1), (73, .if_icmp .ge 23, 3), (76, .aload_n 0, 1), (77, .getfield 32, 3), (80, .iconst 4, 1), (81, .aload_n 0, 1), (82, .getfield 7, 3), (85, .imul, 1), (86, .iload_n 3, 1), (87, .iadd, 1), (88, .iconst 0, 1), (89, .iastore, 1), (90, .iinc 3 1, 3), (93, .goto (-22), 3), (96, .aload_n 0, 1), (97, .dup, 1), (98, .getfield 7, 3), (101, .iconst 1, 1), (102, .iadd, 1), (103, .putfield 7, 3), (106, .aload_n 0, 1), (107, .getfield 7, 3), (110, .iconst 1, 1), (111, .isub, 1), (112, .ireturn, 1)]
theorem td_need : tb_need.all (fun q => decide (decode cX12_need q.1 = .ok (q.2.1, q.2.2))) = true := by decide +kernel
theorem w_need_b71F {p : Program} {l : Launch} {e : Env} {s : State} {m : MethodId} {args : Array Value} {below : List Frame} {meth : Method} {c : Code} {D : va_G} {o : Nat} {ad : Nat → Nat} {cs : ClassId × ClassId × ClassId} {r : Int32} {st' : mm_S} (C : mm_C p s m args meth c cX12_need 4 (some .int) D cs) (fu : Nat) (K71 : Int32 → mm_S → Option (Int32 × mm_S)) (hK71 : ∀ (x3 : Int32) (st : mm_S) (H : Heap) (locs : List Loc) (ls : Array Slot), K71 x3 st = some (r, st') → lv_has ls 4 [(0, .ref o), (3, .int x3)] → mm_H D o ad cs s.heap st H locs → W p l e (mm_R 1 23) s m args below meth c H locs 0 0 (MQ below (mm_Qi D o ad cs r st') args s 0 0 (mm_A o ad)) (F0 m 71 ls [])) (x3 : Int32) (st : mm_S) (hf : M_need_b71F fu K71 x3 st = some (r, st')) {H : Heap} {locs : List Loc} {ls : Array Slot} (hl : lv_has ls 4 [(0, .ref o), (3, .int x3)]) (hM : mm_H D o ad cs s.heap st H locs) : W p l e (mm_R 1 23) s m args below meth c H locs 0 0 (MQ below (mm_Qi D o ad cs r st') args s 0 0 (mm_A o ad)) (F0 m 71 ls []) := by
  unfold M_need_b71F at hf
  refine lv_iload_n C.1 C.2.1 (dd_at td_need 42 rfl) rfl (lv_at hl 1 rfl) ?_
  refine lv_iconst (v := (4 : Int32)) C.1 C.2.1 (dd_at td_need 43 rfl) (by decide) ?_
  refine lv_icmp_ge (tgt := 96) C.1 C.2.1 (dd_at td_need 44 rfl) (by decide) (fun c16 => ?_) (fun c16 => ?_)
  · replace hf := fc_of_t hf c16
    refine lv_aload_n C.1 C.2.1 (dd_at td_need 57 rfl) rfl (lv_at hl 0 rfl) ?_
    refine lv_dup C.1 C.2.1 (dd_at td_need 58 rfl) rfl ?_
    refine mm_gI C hM 0 (dd_at td_need 59 rfl) (by decide) (by decide) (by decide) ?_
    refine lv_iconst (v := (1 : Int32)) C.1 C.2.1 (dd_at td_need 60 rfl) (by decide) ?_
    refine lv_iadd C.1 C.2.1 (dd_at td_need 61 rfl) ?_
    refine mm_pI C hM 0 (dd_at td_need 62 rfl) (by decide) (by decide) (by decide) rfl rfl (fun st17 H locs est17 hM => ?_)
    replace hf := fc_of_nm hf st17 est17
    refine lv_aload_n C.1 C.2.1 (dd_at td_need 63 rfl) rfl (lv_at hl 0 rfl) ?_
    refine mm_gI C hM 0 (dd_at td_need 64 rfl) (by decide) (by decide) (by decide) ?_
    refine lv_iconst (v := (1 : Int32)) C.1 C.2.1 (dd_at td_need 65 rfl) (by decide) ?_
    refine lv_isub C.1 C.2.1 (dd_at td_need 66 rfl) ?_
    exact mm_ri C hM (dd_at td_need 67 rfl) hf
  · replace hf := fc_of_f hf c16
    refine lv_aload_n C.1 C.2.1 (dd_at td_need 45 rfl) rfl (lv_at hl 0 rfl) ?_
    refine mm_gA C hM 7 (dd_at td_need 46 rfl) (by decide) (by decide) (by decide) ?_
    refine lv_iconst (v := (4 : Int32)) C.1 C.2.1 (dd_at td_need 47 rfl) (by decide) ?_
    refine lv_aload_n C.1 C.2.1 (dd_at td_need 48 rfl) rfl (lv_at hl 0 rfl) ?_
    refine mm_gI C hM 0 (dd_at td_need 49 rfl) (by decide) (by decide) (by decide) ?_
    refine lv_imul C.1 C.2.1 (dd_at td_need 50 rfl) ?_
    refine lv_iload_n C.1 C.2.1 (dd_at td_need 51 rfl) rfl (lv_at hl 1 rfl) ?_
    refine lv_iadd C.1 C.2.1 (dd_at td_need 52 rfl) ?_
    refine lv_iconst (v := (0 : Int32)) C.1 C.2.1 (dd_at td_need 53 rfl) (by decide) ?_
    obtain ⟨g18, hf⟩ := fc_of_gd hf
    refine mm_iast C hM 7 (dd_at td_need 54 rfl) (by decide) (by decide) (fc_of_ix g18) (fun st19 H locs est19 hM => ?_)
    replace hf := fc_of_nm hf st19 est19
    obtain ⟨x20, ex20⟩ : ∃ y : Int32, y = x3 + (1 : Int32) := ⟨_, rfl⟩
    replace hf := fc_of_nm hf x20 ex20
    refine lv_iinc (v := x20) (lv' := [(3, .int x20), (0, .ref o)]) C.1 C.2.1 (dd_at td_need 55 rfl) hl (k := 1) rfl (by rw [ex20]; rfl) (by decide) rfl (fun ls hl => ?_)
    refine lv_goto (tgt := 71) C.1 C.2.1 (dd_at td_need 56 rfl) (by decide) ?_
    exact hK71 x20 st19 _ _ _ hf (lv_sub hl [1, 0] rfl) hM
theorem w_need_b71 {p : Program} {l : Launch} {e : Env} {s : State} {m : MethodId} {args : Array Value} {below : List Frame} {meth : Method} {c : Code} {D : va_G} {o : Nat} {ad : Nat → Nat} {cs : ClassId × ClassId × ClassId} {r : Int32} {st' : mm_S} (C : mm_C p s m args meth c cX12_need 4 (some .int) D cs) (fu : Nat) (n : Nat) : ∀ (x3 : Int32) (st : mm_S), M_need_b71 fu n x3 st = some (r, st') → ∀ (H : Heap) (locs : List Loc) (ls : Array Slot), lv_has ls 4 [(0, .ref o), (3, .int x3)] → mm_H D o ad cs s.heap st H locs → W p l e (mm_R 1 23) s m args below meth c H locs 0 0 (MQ below (mm_Qi D o ad cs r st') args s 0 0 (mm_A o ad)) (F0 m 71 ls []) := by
  induction n with
  | zero => exact fun _ _ hf => fc_no hf
  | succ n ih =>
    intro x3 st hf H locs ls hl hM
    exact w_need_b71F C fu (fun x3 st => M_need_b71 fu n x3 st) (fun x3 st H locs ls hf hl hM => ih x3 st hf H locs ls hl hM) x3 st hf hl hM
theorem w_need {p : Program} {l : Launch} {e : Env} {s : State} {m : MethodId} {args : Array Value} {below : List Frame} {meth : Method} {c : Code} {D : va_G} {o : Nat} {ad : Nat → Nat} {cs : ClassId × ClassId × ClassId} {r : Int32} {st' : mm_S} (C : mm_C p s m args meth c cX12_need 4 (some .int) D cs) (fu : Nat) (x1 : Int32) (x2 : Int32) (st : mm_S) (hf : M_need fu x1 x2 st = some (r, st')) {H : Heap} {locs : List Loc} {ls : Array Slot} (hl : lv_has ls 4 [(0, .ref o), (1, .int x1), (2, .int x2)]) (hM : mm_H D o ad cs s.heap st H locs) : W p l e (mm_R 1 23) s m args below meth c H locs 0 0 (MQ below (mm_Qi D o ad cs r st') args s 0 0 (mm_A o ad)) (F0 m 0 ls []) := by
  unfold M_need at hf
  refine lv_aload_n C.1 C.2.1 (dd_at td_need 0 rfl) rfl (lv_at hl 0 rfl) ?_
  refine lv_iload_n C.1 C.2.1 (dd_at td_need 1 rfl) rfl (lv_at hl 1 rfl) ?_
  refine lv_iconst (v := (0 : Int32)) C.1 C.2.1 (dd_at td_need 2 rfl) (by decide) ?_
  refine lv_bipush (v := (6 : Int32)) C.1 C.2.1 (dd_at td_need 3 rfl) (by decide) ?_
  obtain ⟨r3, st1, hx2, hf⟩ := fc_of_bn hf
  refine mm_ci (As := [.int x1, .int (0 : Int32), .int (6 : Int32)]) (rest := []) (n := 3) C hM (c_in l D o ad cs fu x1 (0 : Int32) (6 : Int32) st) (List.mem_of_getElem? (i := 18) rfl) (dd_at td_need 4 rfl) hx2 hl.1 hd_in ⟨Nat.le_of_ble_eq_true rfl, Nat.le_of_ble_eq_true rfl⟩ rfl rfl (Nat.le_of_ble_eq_true rfl) ⟨Nat.le_refl 0, Nat.le_refl 0⟩ (fun H locs hM => ?_)
  refine lv_if_ne (tgt := 13) C.1 C.2.1 (dd_at td_need 5 rfl) (by decide) (fun c4 => ?_) (fun c4 => ?_)
  · replace hf := fc_of_f hf c4
    refine lv_aload_n C.1 C.2.1 (dd_at td_need 8 rfl) rfl (lv_at hl 0 rfl) ?_
    refine lv_iload_n C.1 C.2.1 (dd_at td_need 9 rfl) rfl (lv_at hl 2 rfl) ?_
    refine lv_iconst (v := (0 : Int32)) C.1 C.2.1 (dd_at td_need 10 rfl) (by decide) ?_
    refine lv_bipush (v := (9 : Int32)) C.1 C.2.1 (dd_at td_need 11 rfl) (by decide) ?_
    obtain ⟨r7, st5, hx6, hf⟩ := fc_of_bn hf
    refine mm_ci (As := [.int x2, .int (0 : Int32), .int (9 : Int32)]) (rest := []) (n := 3) C hM (c_in l D o ad cs fu x2 (0 : Int32) (9 : Int32) st1) (List.mem_of_getElem? (i := 18) rfl) (dd_at td_need 12 rfl) hx6 hl.1 hd_in ⟨Nat.le_of_ble_eq_true rfl, Nat.le_of_ble_eq_true rfl⟩ rfl rfl (Nat.le_of_ble_eq_true rfl) ⟨Nat.le_refl 0, Nat.le_refl 0⟩ (fun H locs hM => ?_)
    refine lv_if_ne (tgt := 27) C.1 C.2.1 (dd_at td_need 13 rfl) (by decide) (fun c8 => ?_) (fun c8 => ?_)
    · replace hf := fc_of_f hf c8
      refine lv_aload_n C.1 C.2.1 (dd_at td_need 16 rfl) rfl (lv_at hl 0 rfl) ?_
      refine mm_gI C hM 0 (dd_at td_need 17 rfl) (by decide) (by decide) (by decide) ?_
      refine lv_bipush (v := (6 : Int32)) C.1 C.2.1 (dd_at td_need 18 rfl) (by decide) ?_
      refine lv_icmp_ne (tgt := 39) C.1 C.2.1 (dd_at td_need 19 rfl) (by decide) (fun c9 => ?_) (fun c9 => ?_)
      · replace hf := fc_of_f hf c9
        refine lv_aload_n C.1 C.2.1 (dd_at td_need 22 rfl) rfl (lv_at hl 0 rfl) ?_
        refine mm_gA C hM 4 (dd_at td_need 23 rfl) (by decide) (by decide) (by decide) ?_
        refine lv_aload_n C.1 C.2.1 (dd_at td_need 24 rfl) rfl (lv_at hl 0 rfl) ?_
        refine mm_gI C hM 0 (dd_at td_need 25 rfl) (by decide) (by decide) (by decide) ?_
        refine lv_iload_n C.1 C.2.1 (dd_at td_need 26 rfl) rfl (lv_at hl 1 rfl) ?_
        obtain ⟨g10, hf⟩ := fc_of_gd hf
        refine mm_iast C hM 4 (dd_at td_need 27 rfl) (by decide) (by decide) (fc_of_ix g10) (fun st11 H locs est11 hM => ?_)
        replace hf := fc_of_nm hf st11 est11
        refine lv_aload_n C.1 C.2.1 (dd_at td_need 28 rfl) rfl (lv_at hl 0 rfl) ?_
        refine mm_gA C hM 5 (dd_at td_need 29 rfl) (by decide) (by decide) (by decide) ?_
        refine lv_aload_n C.1 C.2.1 (dd_at td_need 30 rfl) rfl (lv_at hl 0 rfl) ?_
        refine mm_gI C hM 0 (dd_at td_need 31 rfl) (by decide) (by decide) (by decide) ?_
        refine lv_iload_n C.1 C.2.1 (dd_at td_need 32 rfl) rfl (lv_at hl 2 rfl) ?_
        obtain ⟨g12, hf⟩ := fc_of_gd hf
        refine mm_iast C hM 5 (dd_at td_need 33 rfl) (by decide) (by decide) (fc_of_ix g12) (fun st13 H locs est13 hM => ?_)
        replace hf := fc_of_nm hf st13 est13
        refine lv_aload_n C.1 C.2.1 (dd_at td_need 34 rfl) rfl (lv_at hl 0 rfl) ?_
        refine mm_gA C hM 6 (dd_at td_need 35 rfl) (by decide) (by decide) (by decide) ?_
        refine lv_aload_n C.1 C.2.1 (dd_at td_need 36 rfl) rfl (lv_at hl 0 rfl) ?_
        refine mm_gI C hM 0 (dd_at td_need 37 rfl) (by decide) (by decide) (by decide) ?_
        refine lv_iconst (v := (0 : Int32)) C.1 C.2.1 (dd_at td_need 38 rfl) (by decide) ?_
        obtain ⟨g14, hf⟩ := fc_of_gd hf
        refine mm_iast C hM 6 (dd_at td_need 39 rfl) (by decide) (by decide) (fc_of_ix g14) (fun st15 H locs est15 hM => ?_)
        replace hf := fc_of_nm hf st15 est15
        refine lv_iconst (v := (0 : Int32)) C.1 C.2.1 (dd_at td_need 40 rfl) (by decide) ?_
        refine lv_istore_n (lv' := [(3, .int (0 : Int32)), (0, .ref o), (1, .int x1), (2, .int x2)]) C.1 C.2.1 (dd_at td_need 41 rfl) rfl hl (by decide) rfl (fun ls hl => ?_)
        exact w_need_b71 C fu fu (0 : Int32) st15 hf _ _ _ (lv_sub hl [1, 0] rfl) hM
      · replace hf := fc_of_t hf c9
        refine lv_bipush (v := (-4 : Int32)) C.1 C.2.1 (dd_at td_need 20 rfl) (by decide) ?_
        exact mm_ri C hM (dd_at td_need 21 rfl) hf
    · replace hf := fc_of_t hf c8
      refine lv_bipush (v := (-2 : Int32)) C.1 C.2.1 (dd_at td_need 14 rfl) (by decide) ?_
      exact mm_ri C hM (dd_at td_need 15 rfl) hf
  · replace hf := fc_of_t hf c4
    refine lv_iconst (v := (-1 : Int32)) C.1 C.2.1 (dd_at td_need 6 rfl) (by decide) ?_
    exact mm_ri C hM (dd_at td_need 7 rfl) hf
theorem c_need (l : Launch) (D : va_G) (o : Nat) (ad : Nat → Nat) (cs : ClassId × ClassId × ClassId) (fu : Nat) (x1 : Int32) (x2 : Int32) (st : mm_S) : mm_Mi l D o ad cs yX12_need cX12_need 4 (some .int) 1 23 [.int x1, .int x2] st (M_need fu x1 x2 st) := by
  intro r st' hf
  refine mm_enter (cc := cX12_need) (nL := 4) (ret := some .int) (by decide) rfl (Nat.le_of_ble_eq_true rfl) ?_
  intro p e s m args below meth c ls C hl hM
  exact w_need C fu x1 x2 st hf hl hM

/-! darks -/
def tb_darks : List (Nat × Instr × Nat) := [(0, .aload_n 0, 1), (1, .iload_n 1, 1), (2, .invokevirtual 211, 3), (5, .ifCond .ne 6, 3), (8, .bipush (-2), 2), (10, .ireturn, 1), (11, .aload_n 0, 1), (12, .getfield 13, 3), (15, .istore_n 2, 1), (16, .aload_n 0, 1), (17, .iload_n 1, 1), (18, .putfield 13, 3), (21, .iload_n 2, 1), (22, .ireturn, 1)]
theorem td_darks : tb_darks.all (fun q => decide (decode cX12_darks q.1 = .ok (q.2.1, q.2.2))) = true := by decide +kernel
theorem w_darks {p : Program} {l : Launch} {e : Env} {s : State} {m : MethodId} {args : Array Value} {below : List Frame} {meth : Method} {c : Code} {D : va_G} {o : Nat} {ad : Nat → Nat} {cs : ClassId × ClassId × ClassId} {r : Int32} {st' : mm_S} (C : mm_C p s m args meth c cX12_darks 3 (some .int) D cs) (fu : Nat) (x1 : Int32) (st : mm_S) (hf : M_darks fu x1 st = some (r, st')) {H : Heap} {locs : List Loc} {ls : Array Slot} (hl : lv_has ls 3 [(0, .ref o), (1, .int x1)]) (hM : mm_H D o ad cs s.heap st H locs) : W p l e (mm_R 2 44) s m args below meth c H locs 0 0 (MQ below (mm_Qi D o ad cs r st') args s 0 0 (mm_A o ad)) (F0 m 0 ls []) := by
  unfold M_darks at hf
  refine lv_aload_n C.1 C.2.1 (dd_at td_darks 0 rfl) rfl (lv_at hl 0 rfl) ?_
  refine lv_iload_n C.1 C.2.1 (dd_at td_darks 1 rfl) rfl (lv_at hl 1 rfl) ?_
  obtain ⟨r3, st1, hx2, hf⟩ := fc_of_bn hf
  refine mm_ci (As := [.int x1]) (rest := []) (n := 1) C hM (c_isDarks l D o ad cs fu x1 st) (List.mem_of_getElem? (i := 20) rfl) (dd_at td_darks 2 rfl) hx2 hl.1 hd_isDarks ⟨Nat.le_of_ble_eq_true rfl, Nat.le_of_ble_eq_true rfl⟩ rfl rfl (Nat.le_of_ble_eq_true rfl) ⟨Nat.le_refl 0, Nat.le_refl 0⟩ (fun H locs hM => ?_)
  refine lv_if_ne (tgt := 11) C.1 C.2.1 (dd_at td_darks 3 rfl) (by decide) (fun c4 => ?_) (fun c4 => ?_)
  · replace hf := fc_of_f hf c4
    refine lv_aload_n C.1 C.2.1 (dd_at td_darks 6 rfl) rfl (lv_at hl 0 rfl) ?_
    refine mm_gI C hM 1 (dd_at td_darks 7 rfl) (by decide) (by decide) (by decide) ?_
    refine lv_topi (fun x5 ex5 => ?_)
    replace hf := fc_of_nm hf x5 ex5
    refine lv_istore_n (lv' := [(2, .int x5), (0, .ref o), (1, .int x1)]) C.1 C.2.1 (dd_at td_darks 8 rfl) rfl hl (by decide) rfl (fun ls hl => ?_)
    refine lv_aload_n C.1 C.2.1 (dd_at td_darks 9 rfl) rfl (lv_at hl 1 rfl) ?_
    refine lv_iload_n C.1 C.2.1 (dd_at td_darks 10 rfl) rfl (lv_at hl 2 rfl) ?_
    refine mm_pI C hM 1 (dd_at td_darks 11 rfl) (by decide) (by decide) (by decide) rfl rfl (fun st6 H locs est6 hM => ?_)
    replace hf := fc_of_nm hf st6 est6
    refine lv_iload_n C.1 C.2.1 (dd_at td_darks 12 rfl) rfl (lv_at hl 0 rfl) ?_
    exact mm_ri C hM (dd_at td_darks 13 rfl) hf
  · replace hf := fc_of_t hf c4
    refine lv_bipush (v := (-2 : Int32)) C.1 C.2.1 (dd_at td_darks 4 rfl) (by decide) ?_
    exact mm_ri C hM (dd_at td_darks 5 rfl) hf
theorem c_darks (l : Launch) (D : va_G) (o : Nat) (ad : Nat → Nat) (cs : ClassId × ClassId × ClassId) (fu : Nat) (x1 : Int32) (st : mm_S) : mm_Mi l D o ad cs yX12_darks cX12_darks 3 (some .int) 2 44 [.int x1] st (M_darks fu x1 st) := by
  intro r st' hf
  refine mm_enter (cc := cX12_darks) (nL := 3) (ret := some .int) (by decide) rfl (Nat.le_of_ble_eq_true rfl) ?_
  intro p e s m args below meth c ls C hl hM
  exact w_darks C fu x1 st hf hl hM

/-! row -/
def tb_row : List (Nat × Instr × Nat) := [(0, .aload_n 0, 1), (1, .iload_n 1, 1), (2, .invokevirtual 215, 3), (5, .ifCond .eq 13, 3), (8, .aload_n 0, 1), (9, .iload_n 2, 1), (10, .iconst 0, 1), (11, .iconst 3, 1), (12, .invokevirtual 207, 3), (15, .ifCond .ne 5, 3), (18, .iconst (-1), 1), (19, .ireturn, 1), (20, .aload_n 0, 1), (21, .iload_n 3, 1), (22, .iconst 0, 1), (23, .bipush 9, 2), (25, .invokevirtual 207, 3), (28, .ifCond .ne 6, 3), (31, .bipush (-2), 2), (33, .ireturn, 1), (34, .aload_n 0, 1), (35, .getfield 22, 3), (38, .iload_n 1, 1), (39, .iaload, 1), (40, .bipush 6, 2), (42, .if_icmp .eq 6, 3), (45, .bipush (-3), 2), (47, .ireturn, 1), (48, .aload_n 0, 1), (49, .getfield 32, 3), (52, .iconst 4, 1), (53, .iload_n 1, 1), (54, .imul, 1), (55, .iload_n 2, 1), (56, .iadd, 1), (57, .iaload, 1), (58, .istore 4, 2), (60, .aload_n 0, 1), (61, .getfield 32, 3), (64, .iconst 4, 1), (65, .iload_n 1, 1), (66, .imul, 1), (67, .iload_n 2, 1), (68, .iadd, 1), (69, .iload_n 3, 1), (70, .iastore, 1), (71, .iload 4, 2), (73, .ireturn, 1)]
theorem td_row : tb_row.all (fun q => decide (decode cX12_row q.1 = .ok (q.2.1, q.2.2))) = true := by decide +kernel
theorem w_row {p : Program} {l : Launch} {e : Env} {s : State} {m : MethodId} {args : Array Value} {below : List Frame} {meth : Method} {c : Code} {D : va_G} {o : Nat} {ad : Nat → Nat} {cs : ClassId × ClassId × ClassId} {r : Int32} {st' : mm_S} (C : mm_C p s m args meth c cX12_row 5 (some .int) D cs) (fu : Nat) (x1 : Int32) (x2 : Int32) (x3 : Int32) (st : mm_S) (hf : M_row fu x1 x2 x3 st = some (r, st')) {H : Heap} {locs : List Loc} {ls : Array Slot} (hl : lv_has ls 5 [(0, .ref o), (1, .int x1), (2, .int x2), (3, .int x3)]) (hM : mm_H D o ad cs s.heap st H locs) : W p l e (mm_R 2 44) s m args below meth c H locs 0 0 (MQ below (mm_Qi D o ad cs r st') args s 0 0 (mm_A o ad)) (F0 m 0 ls []) := by
  unfold M_row at hf
  refine lv_aload_n C.1 C.2.1 (dd_at td_row 0 rfl) rfl (lv_at hl 0 rfl) ?_
  refine lv_iload_n C.1 C.2.1 (dd_at td_row 1 rfl) rfl (lv_at hl 1 rfl) ?_
  obtain ⟨r3, st1, hx2, hf⟩ := fc_of_bn hf
  refine mm_ci (As := [.int x1]) (rest := []) (n := 1) C hM (c_isNeed l D o ad cs fu x1 st) (List.mem_of_getElem? (i := 22) rfl) (dd_at td_row 2 rfl) hx2 hl.1 hd_isNeed ⟨Nat.le_of_ble_eq_true rfl, Nat.le_of_ble_eq_true rfl⟩ rfl rfl (Nat.le_of_ble_eq_true rfl) ⟨Nat.le_refl 0, Nat.le_refl 0⟩ (fun H locs hM => ?_)
  refine lv_if_eq (tgt := 18) C.1 C.2.1 (dd_at td_row 3 rfl) (by decide) (fun c4 => ?_) (fun c4 => ?_)
  · replace hf := fc_of_t hf c4
    refine lv_iconst (v := (-1 : Int32)) C.1 C.2.1 (dd_at td_row 10 rfl) (by decide) ?_
    exact mm_ri C hM (dd_at td_row 11 rfl) hf
  · replace hf := fc_of_f hf c4
    refine lv_aload_n C.1 C.2.1 (dd_at td_row 4 rfl) rfl (lv_at hl 0 rfl) ?_
    refine lv_iload_n C.1 C.2.1 (dd_at td_row 5 rfl) rfl (lv_at hl 2 rfl) ?_
    refine lv_iconst (v := (0 : Int32)) C.1 C.2.1 (dd_at td_row 6 rfl) (by decide) ?_
    refine lv_iconst (v := (3 : Int32)) C.1 C.2.1 (dd_at td_row 7 rfl) (by decide) ?_
    obtain ⟨r7, st5, hx6, hf⟩ := fc_of_bn hf
    refine mm_ci (As := [.int x2, .int (0 : Int32), .int (3 : Int32)]) (rest := []) (n := 3) C hM (c_in l D o ad cs fu x2 (0 : Int32) (3 : Int32) st1) (List.mem_of_getElem? (i := 18) rfl) (dd_at td_row 8 rfl) hx6 hl.1 hd_in ⟨Nat.le_of_ble_eq_true rfl, Nat.le_of_ble_eq_true rfl⟩ rfl rfl (Nat.le_of_ble_eq_true rfl) ⟨Nat.le_refl 0, Nat.le_refl 0⟩ (fun H locs hM => ?_)
    refine lv_if_ne (tgt := 20) C.1 C.2.1 (dd_at td_row 9 rfl) (by decide) (fun c8 => ?_) (fun c8 => ?_)
    · replace hf := fc_of_f hf c8
      refine lv_aload_n C.1 C.2.1 (dd_at td_row 12 rfl) rfl (lv_at hl 0 rfl) ?_
      refine lv_iload_n C.1 C.2.1 (dd_at td_row 13 rfl) rfl (lv_at hl 3 rfl) ?_
      refine lv_iconst (v := (0 : Int32)) C.1 C.2.1 (dd_at td_row 14 rfl) (by decide) ?_
      refine lv_bipush (v := (9 : Int32)) C.1 C.2.1 (dd_at td_row 15 rfl) (by decide) ?_
      obtain ⟨r11, st9, hx10, hf⟩ := fc_of_bn hf
      refine mm_ci (As := [.int x3, .int (0 : Int32), .int (9 : Int32)]) (rest := []) (n := 3) C hM (c_in l D o ad cs fu x3 (0 : Int32) (9 : Int32) st5) (List.mem_of_getElem? (i := 18) rfl) (dd_at td_row 16 rfl) hx10 hl.1 hd_in ⟨Nat.le_of_ble_eq_true rfl, Nat.le_of_ble_eq_true rfl⟩ rfl rfl (Nat.le_of_ble_eq_true rfl) ⟨Nat.le_refl 0, Nat.le_refl 0⟩ (fun H locs hM => ?_)
      refine lv_if_ne (tgt := 34) C.1 C.2.1 (dd_at td_row 17 rfl) (by decide) (fun c12 => ?_) (fun c12 => ?_)
      · replace hf := fc_of_f hf c12
        refine lv_aload_n C.1 C.2.1 (dd_at td_row 20 rfl) rfl (lv_at hl 0 rfl) ?_
        refine mm_gA C hM 4 (dd_at td_row 21 rfl) (by decide) (by decide) (by decide) ?_
        refine lv_iload_n C.1 C.2.1 (dd_at td_row 22 rfl) rfl (lv_at hl 1 rfl) ?_
        obtain ⟨g13, hf⟩ := fc_of_gd hf
        refine mm_iald C hM 4 (dd_at td_row 23 rfl) (by decide) (by decide) (fc_of_ix g13) ?_
        refine lv_bipush (v := (6 : Int32)) C.1 C.2.1 (dd_at td_row 24 rfl) (by decide) ?_
        refine lv_icmp_eq (tgt := 48) C.1 C.2.1 (dd_at td_row 25 rfl) (by decide) (fun c14 => ?_) (fun c14 => ?_)
        · replace hf := fc_of_t hf c14
          refine lv_aload_n C.1 C.2.1 (dd_at td_row 28 rfl) rfl (lv_at hl 0 rfl) ?_
          refine mm_gA C hM 7 (dd_at td_row 29 rfl) (by decide) (by decide) (by decide) ?_
          refine lv_iconst (v := (4 : Int32)) C.1 C.2.1 (dd_at td_row 30 rfl) (by decide) ?_
          refine lv_iload_n C.1 C.2.1 (dd_at td_row 31 rfl) rfl (lv_at hl 1 rfl) ?_
          refine lv_imul C.1 C.2.1 (dd_at td_row 32 rfl) ?_
          refine lv_iload_n C.1 C.2.1 (dd_at td_row 33 rfl) rfl (lv_at hl 2 rfl) ?_
          refine lv_iadd C.1 C.2.1 (dd_at td_row 34 rfl) ?_
          obtain ⟨g15, hf⟩ := fc_of_gd hf
          refine mm_iald C hM 7 (dd_at td_row 35 rfl) (by decide) (by decide) (fc_of_ix g15) ?_
          refine lv_topi (fun x16 ex16 => ?_)
          replace hf := fc_of_nm hf x16 ex16
          refine lv_istore (lv' := [(4, .int x16), (0, .ref o), (1, .int x1), (2, .int x2), (3, .int x3)]) C.1 C.2.1 (dd_at td_row 36 rfl) hl (by decide) rfl (fun ls hl => ?_)
          refine lv_aload_n C.1 C.2.1 (dd_at td_row 37 rfl) rfl (lv_at hl 1 rfl) ?_
          refine mm_gA C hM 7 (dd_at td_row 38 rfl) (by decide) (by decide) (by decide) ?_
          refine lv_iconst (v := (4 : Int32)) C.1 C.2.1 (dd_at td_row 39 rfl) (by decide) ?_
          refine lv_iload_n C.1 C.2.1 (dd_at td_row 40 rfl) rfl (lv_at hl 2 rfl) ?_
          refine lv_imul C.1 C.2.1 (dd_at td_row 41 rfl) ?_
          refine lv_iload_n C.1 C.2.1 (dd_at td_row 42 rfl) rfl (lv_at hl 3 rfl) ?_
          refine lv_iadd C.1 C.2.1 (dd_at td_row 43 rfl) ?_
          refine lv_iload_n C.1 C.2.1 (dd_at td_row 44 rfl) rfl (lv_at hl 4 rfl) ?_
          obtain ⟨g17, hf⟩ := fc_of_gd hf
          refine mm_iast C hM 7 (dd_at td_row 45 rfl) (by decide) (by decide) (fc_of_ix g17) (fun st18 H locs est18 hM => ?_)
          replace hf := fc_of_nm hf st18 est18
          refine lv_iload C.1 C.2.1 (dd_at td_row 46 rfl) (lv_at hl 0 rfl) ?_
          exact mm_ri C hM (dd_at td_row 47 rfl) hf
        · replace hf := fc_of_f hf c14
          refine lv_bipush (v := (-3 : Int32)) C.1 C.2.1 (dd_at td_row 26 rfl) (by decide) ?_
          exact mm_ri C hM (dd_at td_row 27 rfl) hf
      · replace hf := fc_of_t hf c12
        refine lv_bipush (v := (-2 : Int32)) C.1 C.2.1 (dd_at td_row 18 rfl) (by decide) ?_
        exact mm_ri C hM (dd_at td_row 19 rfl) hf
    · replace hf := fc_of_t hf c8
      refine lv_iconst (v := (-1 : Int32)) C.1 C.2.1 (dd_at td_row 10 rfl) (by decide) ?_
      exact mm_ri C hM (dd_at td_row 11 rfl) hf
theorem c_row (l : Launch) (D : va_G) (o : Nat) (ad : Nat → Nat) (cs : ClassId × ClassId × ClassId) (fu : Nat) (x1 : Int32) (x2 : Int32) (x3 : Int32) (st : mm_S) : mm_Mi l D o ad cs yX12_row cX12_row 5 (some .int) 2 44 [.int x1, .int x2, .int x3] st (M_row fu x1 x2 x3 st) := by
  intro r st' hf
  refine mm_enter (cc := cX12_row) (nL := 5) (ret := some .int) (by decide) rfl (Nat.le_of_ble_eq_true rfl) ?_
  intro p e s m args below meth c ls C hl hM
  exact w_row C fu x1 x2 x3 st hf hl hM

/-! feed -/
def tb_feed : List (Nat × Instr × Nat) := [(0, .aload_n 0, 1), (1, .iload_n 1, 1), (2, .iconst 0, 1), (3, .bipush 127, 2), (5, .invokevirtual 207, 3), (8, .ifCond .ne 6, 3), (11, .bipush (-2), 2), (13, .ireturn, 1), (14, .aload_n 0, 1), (15, .getfield 41, 3), (18, .bipush 100, 2), (20, .if_icmp .ne 6, 3), (23, .bipush (-4), 2), (25, .ireturn, 1), (26, .aload_n 0, 1), (27, .getfield 50, 3), (30, .aload_n 0, 1), (31, .getfield 41, 3), (34, .iload_n 1, 1), (35, .iastore, 1), (36, .aload_n 0, 1), (37, .dup, 1), (38, .getfield 41, 3), (41, .iconst 1, 1), (42, .iadd, 1), (43, .putfield 41, 3), (46, .aload_n 0, 1), (47, .getfield 41, 3), (50, .ireturn, 1)]
theorem td_feed : tb_feed.all (fun q => decide (decode cX12_feed q.1 = .ok (q.2.1, q.2.2))) = true := by decide +kernel
theorem w_feed {p : Program} {l : Launch} {e : Env} {s : State} {m : MethodId} {args : Array Value} {below : List Frame} {meth : Method} {c : Code} {D : va_G} {o : Nat} {ad : Nat → Nat} {cs : ClassId × ClassId × ClassId} {r : Int32} {st' : mm_S} (C : mm_C p s m args meth c cX12_feed 2 (some .int) D cs) (fu : Nat) (x1 : Int32) (st : mm_S) (hf : M_feed fu x1 st = some (r, st')) {H : Heap} {locs : List Loc} {ls : Array Slot} (hl : lv_has ls 2 [(0, .ref o), (1, .int x1)]) (hM : mm_H D o ad cs s.heap st H locs) : W p l e (mm_R 1 23) s m args below meth c H locs 0 0 (MQ below (mm_Qi D o ad cs r st') args s 0 0 (mm_A o ad)) (F0 m 0 ls []) := by
  unfold M_feed at hf
  refine lv_aload_n C.1 C.2.1 (dd_at td_feed 0 rfl) rfl (lv_at hl 0 rfl) ?_
  refine lv_iload_n C.1 C.2.1 (dd_at td_feed 1 rfl) rfl (lv_at hl 1 rfl) ?_
  refine lv_iconst (v := (0 : Int32)) C.1 C.2.1 (dd_at td_feed 2 rfl) (by decide) ?_
  refine lv_bipush (v := (127 : Int32)) C.1 C.2.1 (dd_at td_feed 3 rfl) (by decide) ?_
  obtain ⟨r3, st1, hx2, hf⟩ := fc_of_bn hf
  refine mm_ci (As := [.int x1, .int (0 : Int32), .int (127 : Int32)]) (rest := []) (n := 3) C hM (c_in l D o ad cs fu x1 (0 : Int32) (127 : Int32) st) (List.mem_of_getElem? (i := 18) rfl) (dd_at td_feed 4 rfl) hx2 hl.1 hd_in ⟨Nat.le_of_ble_eq_true rfl, Nat.le_of_ble_eq_true rfl⟩ rfl rfl (Nat.le_of_ble_eq_true rfl) ⟨Nat.le_refl 0, Nat.le_refl 0⟩ (fun H locs hM => ?_)
  refine lv_if_ne (tgt := 14) C.1 C.2.1 (dd_at td_feed 5 rfl) (by decide) (fun c4 => ?_) (fun c4 => ?_)
  · replace hf := fc_of_f hf c4
    refine lv_aload_n C.1 C.2.1 (dd_at td_feed 8 rfl) rfl (lv_at hl 0 rfl) ?_
    refine mm_gI C hM 10 (dd_at td_feed 9 rfl) (by decide) (by decide) (by decide) ?_
    refine lv_bipush (v := (100 : Int32)) C.1 C.2.1 (dd_at td_feed 10 rfl) (by decide) ?_
    refine lv_icmp_ne (tgt := 26) C.1 C.2.1 (dd_at td_feed 11 rfl) (by decide) (fun c5 => ?_) (fun c5 => ?_)
    · replace hf := fc_of_f hf c5
      refine lv_aload_n C.1 C.2.1 (dd_at td_feed 14 rfl) rfl (lv_at hl 0 rfl) ?_
      refine mm_gA C hM 13 (dd_at td_feed 15 rfl) (by decide) (by decide) (by decide) ?_
      refine lv_aload_n C.1 C.2.1 (dd_at td_feed 16 rfl) rfl (lv_at hl 0 rfl) ?_
      refine mm_gI C hM 10 (dd_at td_feed 17 rfl) (by decide) (by decide) (by decide) ?_
      refine lv_iload_n C.1 C.2.1 (dd_at td_feed 18 rfl) rfl (lv_at hl 1 rfl) ?_
      obtain ⟨g6, hf⟩ := fc_of_gd hf
      refine mm_iast C hM 13 (dd_at td_feed 19 rfl) (by decide) (by decide) (fc_of_ix g6) (fun st7 H locs est7 hM => ?_)
      replace hf := fc_of_nm hf st7 est7
      refine lv_aload_n C.1 C.2.1 (dd_at td_feed 20 rfl) rfl (lv_at hl 0 rfl) ?_
      refine lv_dup C.1 C.2.1 (dd_at td_feed 21 rfl) rfl ?_
      refine mm_gI C hM 10 (dd_at td_feed 22 rfl) (by decide) (by decide) (by decide) ?_
      refine lv_iconst (v := (1 : Int32)) C.1 C.2.1 (dd_at td_feed 23 rfl) (by decide) ?_
      refine lv_iadd C.1 C.2.1 (dd_at td_feed 24 rfl) ?_
      refine mm_pI C hM 10 (dd_at td_feed 25 rfl) (by decide) (by decide) (by decide) rfl rfl (fun st8 H locs est8 hM => ?_)
      replace hf := fc_of_nm hf st8 est8
      refine lv_aload_n C.1 C.2.1 (dd_at td_feed 26 rfl) rfl (lv_at hl 0 rfl) ?_
      refine mm_gI C hM 10 (dd_at td_feed 27 rfl) (by decide) (by decide) (by decide) ?_
      exact mm_ri C hM (dd_at td_feed 28 rfl) hf
    · replace hf := fc_of_t hf c5
      refine lv_bipush (v := (-4 : Int32)) C.1 C.2.1 (dd_at td_feed 12 rfl) (by decide) ?_
      exact mm_ri C hM (dd_at td_feed 13 rfl) hf
  · replace hf := fc_of_t hf c4
    refine lv_bipush (v := (-2 : Int32)) C.1 C.2.1 (dd_at td_feed 6 rfl) (by decide) ?_
    exact mm_ri C hM (dd_at td_feed 7 rfl) hf
theorem c_feed (l : Launch) (D : va_G) (o : Nat) (ad : Nat → Nat) (cs : ClassId × ClassId × ClassId) (fu : Nat) (x1 : Int32) (st : mm_S) : mm_Mi l D o ad cs yX12_feed cX12_feed 2 (some .int) 1 23 [.int x1] st (M_feed fu x1 st) := by
  intro r st' hf
  refine mm_enter (cc := cX12_feed) (nL := 2) (ret := some .int) (by decide) rfl (Nat.le_of_ble_eq_true rfl) ?_
  intro p e s m args below meth c ls C hl hM
  exact w_feed C fu x1 st hf hl hM

/-! next -/
def tb_next : List (Nat × Instr × Nat) := [(0, .aload_n 0, 1), (1, .getfield 44, 3), (4, .aload_n 0, 1), (5, .getfield 41, 3), (8, .if_icmp .ge 15, 3), (11, .aload_n 0, 1), (12, .getfield 50, 3), (15, .aload_n 0, 1), (16, .getfield 44, 3), (19, .iaload, 1), (20, .goto 4, 3), (23, .iconst (-1), 1), (24, .ireturn, 1)]
theorem td_next : tb_next.all (fun q => decide (decode cX12_next q.1 = .ok (q.2.1, q.2.2))) = true := by decide +kernel
theorem hd_next : yX12_next.cls = RX12 ∧ yX12_next.cls ≠ "java/lang/invoke/MethodHandle" ∧ yX12_next.cls ≠ "java/lang/invoke/VarHandle" ∧ (parseMethodDescriptor yX12_next.desc).map (fun d => d.parameters.length) = some 0 := by decide +kernel
theorem w_next {p : Program} {l : Launch} {e : Env} {s : State} {m : MethodId} {args : Array Value} {below : List Frame} {meth : Method} {c : Code} {D : va_G} {o : Nat} {ad : Nat → Nat} {cs : ClassId × ClassId × ClassId} {r : Int32} {st' : mm_S} (C : mm_C p s m args meth c cX12_next 1 (some .int) D cs) (fu : Nat) (st : mm_S) (hf : M_next fu st = some (r, st')) {H : Heap} {locs : List Loc} {ls : Array Slot} (hl : lv_has ls 1 [(0, .ref o)]) (hM : mm_H D o ad cs s.heap st H locs) : W p l e (mm_R 0 0) s m args below meth c H locs 0 0 (MQ below (mm_Qi D o ad cs r st') args s 0 0 (mm_A o ad)) (F0 m 0 ls []) := by
  unfold M_next at hf
  refine lv_aload_n C.1 C.2.1 (dd_at td_next 0 rfl) rfl (lv_at hl 0 rfl) ?_
  refine mm_gI C hM 11 (dd_at td_next 1 rfl) (by decide) (by decide) (by decide) ?_
  refine lv_aload_n C.1 C.2.1 (dd_at td_next 2 rfl) rfl (lv_at hl 0 rfl) ?_
  refine mm_gI C hM 10 (dd_at td_next 3 rfl) (by decide) (by decide) (by decide) ?_
  refine lv_icmp_ge (tgt := 23) C.1 C.2.1 (dd_at td_next 4 rfl) (by decide) (fun c1 => ?_) (fun c1 => ?_)
  · replace hf := fc_of_t hf c1
    refine lv_iconst (v := (-1 : Int32)) C.1 C.2.1 (dd_at td_next 11 rfl) (by decide) ?_
    exact mm_ri C hM (dd_at td_next 12 rfl) hf
  · replace hf := fc_of_f hf c1
    refine lv_aload_n C.1 C.2.1 (dd_at td_next 5 rfl) rfl (lv_at hl 0 rfl) ?_
    refine mm_gA C hM 13 (dd_at td_next 6 rfl) (by decide) (by decide) (by decide) ?_
    refine lv_aload_n C.1 C.2.1 (dd_at td_next 7 rfl) rfl (lv_at hl 0 rfl) ?_
    refine mm_gI C hM 11 (dd_at td_next 8 rfl) (by decide) (by decide) (by decide) ?_
    obtain ⟨g2, hf⟩ := fc_of_gd hf
    refine mm_iald C hM 13 (dd_at td_next 9 rfl) (by decide) (by decide) (fc_of_ix g2) ?_
    refine lv_goto (tgt := 24) C.1 C.2.1 (dd_at td_next 10 rfl) (by decide) ?_
    exact mm_ri C hM (dd_at td_next 12 rfl) hf
theorem c_next (l : Launch) (D : va_G) (o : Nat) (ad : Nat → Nat) (cs : ClassId × ClassId × ClassId) (fu : Nat) (st : mm_S) : mm_Mi l D o ad cs yX12_next cX12_next 1 (some .int) 0 0 [] st (M_next fu st) := by
  intro r st' hf
  refine mm_enter (cc := cX12_next) (nL := 1) (ret := some .int) (by decide) rfl (Nat.le_of_ble_eq_true rfl) ?_
  intro p e s m args below meth c ls C hl hM
  exact w_next C fu st hf hl hM

/-! takes -/
def tb_takes : List (Nat × Instr × Nat) := [(0, .aload_n 0, 1), (1, .invokevirtual 218, 3), (4, .iload_n 1, 1), (5, .if_icmp .eq 5, 3), (8, .iconst 0, 1), (9, .ireturn, 1), (10, .aload_n 0, 1), (11, .dup, 1), (12, .getfield 44, 3), (15, .iconst 1, 1), (16, .iadd, 1), (17, .putfield 44, 3), (20, .iconst 1, 1), (21, .ireturn, 1)]
theorem td_takes : tb_takes.all (fun q => decide (decode cX12_takes q.1 = .ok (q.2.1, q.2.2))) = true := by decide +kernel
theorem hd_takes : yX12_takes.cls = RX12 ∧ yX12_takes.cls ≠ "java/lang/invoke/MethodHandle" ∧ yX12_takes.cls ≠ "java/lang/invoke/VarHandle" ∧ (parseMethodDescriptor yX12_takes.desc).map (fun d => d.parameters.length) = some 1 := by decide +kernel
theorem w_takes {p : Program} {l : Launch} {e : Env} {s : State} {m : MethodId} {args : Array Value} {below : List Frame} {meth : Method} {c : Code} {D : va_G} {o : Nat} {ad : Nat → Nat} {cs : ClassId × ClassId × ClassId} {r : Int32} {st' : mm_S} (C : mm_C p s m args meth c cX12_takes 2 (some .boolean) D cs) (fu : Nat) (x1 : Int32) (st : mm_S) (hf : M_takes fu x1 st = some (r, st')) {H : Heap} {locs : List Loc} {ls : Array Slot} (hl : lv_has ls 2 [(0, .ref o), (1, .int x1)]) (hM : mm_H D o ad cs s.heap st H locs) : W p l e (mm_R 1 20) s m args below meth c H locs 0 0 (MQ below (mm_Qi D o ad cs r st') args s 0 0 (mm_A o ad)) (F0 m 0 ls []) := by
  unfold M_takes at hf
  refine lv_aload_n C.1 C.2.1 (dd_at td_takes 0 rfl) rfl (lv_at hl 0 rfl) ?_
  obtain ⟨r3, st1, hx2, hf⟩ := fc_of_bn hf
  refine mm_ci (As := []) (rest := []) (n := 0) C hM (c_next l D o ad cs fu st) (List.mem_of_getElem? (i := 33) rfl) (dd_at td_takes 1 rfl) hx2 hl.1 hd_next ⟨Nat.le_of_ble_eq_true rfl, Nat.le_of_ble_eq_true rfl⟩ rfl rfl (Nat.le_of_ble_eq_true rfl) ⟨Nat.le_refl 0, Nat.le_refl 0⟩ (fun H locs hM => ?_)
  refine lv_iload_n C.1 C.2.1 (dd_at td_takes 2 rfl) rfl (lv_at hl 1 rfl) ?_
  refine lv_icmp_eq (tgt := 10) C.1 C.2.1 (dd_at td_takes 3 rfl) (by decide) (fun c4 => ?_) (fun c4 => ?_)
  · replace hf := fc_of_t hf c4
    refine lv_aload_n C.1 C.2.1 (dd_at td_takes 6 rfl) rfl (lv_at hl 0 rfl) ?_
    refine lv_dup C.1 C.2.1 (dd_at td_takes 7 rfl) rfl ?_
    refine mm_gI C hM 11 (dd_at td_takes 8 rfl) (by decide) (by decide) (by decide) ?_
    refine lv_iconst (v := (1 : Int32)) C.1 C.2.1 (dd_at td_takes 9 rfl) (by decide) ?_
    refine lv_iadd C.1 C.2.1 (dd_at td_takes 10 rfl) ?_
    refine mm_pI C hM 11 (dd_at td_takes 11 rfl) (by decide) (by decide) (by decide) rfl rfl (fun st5 H locs est5 hM => ?_)
    replace hf := fc_of_nm hf st5 est5
    refine lv_iconst (v := (1 : Int32)) C.1 C.2.1 (dd_at td_takes 12 rfl) (by decide) ?_
    exact mm_rz C hM (dd_at td_takes 13 rfl) rfl hf
  · replace hf := fc_of_f hf c4
    refine lv_iconst (v := (0 : Int32)) C.1 C.2.1 (dd_at td_takes 4 rfl) (by decide) ?_
    exact mm_rz C hM (dd_at td_takes 5 rfl) rfl hf
theorem c_takes (l : Launch) (D : va_G) (o : Nat) (ad : Nat → Nat) (cs : ClassId × ClassId × ClassId) (fu : Nat) (x1 : Int32) (st : mm_S) : mm_Mi l D o ad cs yX12_takes cX12_takes 2 (some .boolean) 1 20 [.int x1] st (M_takes fu x1 st) := by
  intro r st' hf
  refine mm_enter (cc := cX12_takes) (nL := 2) (ret := some .boolean) (by decide) rfl (Nat.le_of_ble_eq_true rfl) ?_
  intro p e s m args below meth c ls C hl hM
  exact w_takes C fu x1 st hf hl hM

/-! takesWord -/
def tb_takesWord : List (Nat × Instr × Nat) := [(0, .iconst 0, 1), (1, .istore_n 3, 1), (2, .iload_n 3, 1), (3, .iload_n 2, 1), (4, .if_icmp .ge 26, 3), (7, .aload_n 0, 1), (8, .aload_n 0, 1), (9, .getfield 83, 3), (12, .iload_n 1, 1), (13, .iload_n 3, 1), (14, .iadd, 1), (15, .iaload, 1), (16, .invokevirtual 222, 3), (19, .ifCond .ne 5, 3), (22, .iconst 0, 1), (23, .ireturn, 1), (24, .iinc 3 1, 3), (27, .goto (-25), 3), (30, .aload_n 0, 1), (31, .bipush 32, 2), (33, .invokevirtual 222, 3), (36, .ireturn, 1)]
theorem td_takesWord : tb_takesWord.all (fun q => decide (decode cX12_takesWord q.1 = .ok (q.2.1, q.2.2))) = true := by decide +kernel
theorem hd_takesWord : yX12_takesWord.cls = RX12 ∧ yX12_takesWord.cls ≠ "java/lang/invoke/MethodHandle" ∧ yX12_takesWord.cls ≠ "java/lang/invoke/VarHandle" ∧ (parseMethodDescriptor yX12_takesWord.desc).map (fun d => d.parameters.length) = some 2 := by decide +kernel
theorem w_takesWord_b2F {p : Program} {l : Launch} {e : Env} {s : State} {m : MethodId} {args : Array Value} {below : List Frame} {meth : Method} {c : Code} {D : va_G} {o : Nat} {ad : Nat → Nat} {cs : ClassId × ClassId × ClassId} {r : Int32} {st' : mm_S} (C : mm_C p s m args meth c cX12_takesWord 4 (some .boolean) D cs) (fu : Nat) (K2 : Int32 → Int32 → Int32 → mm_S → Option (Int32 × mm_S)) (hK2 : ∀ (x1 : Int32) (x2 : Int32) (x3 : Int32) (st : mm_S) (H : Heap) (locs : List Loc) (ls : Array Slot), K2 x1 x2 x3 st = some (r, st') → lv_has ls 4 [(0, .ref o), (1, .int x1), (2, .int x2), (3, .int x3)] → mm_H D o ad cs s.heap st H locs → W p l e (mm_R 2 41) s m args below meth c H locs 0 0 (MQ below (mm_Qi D o ad cs r st') args s 0 0 (mm_A o ad)) (F0 m 2 ls [])) (x1 : Int32) (x2 : Int32) (x3 : Int32) (st : mm_S) (hf : M_takesWord_b2F fu K2 x1 x2 x3 st = some (r, st')) {H : Heap} {locs : List Loc} {ls : Array Slot} (hl : lv_has ls 4 [(0, .ref o), (1, .int x1), (2, .int x2), (3, .int x3)]) (hM : mm_H D o ad cs s.heap st H locs) : W p l e (mm_R 2 41) s m args below meth c H locs 0 0 (MQ below (mm_Qi D o ad cs r st') args s 0 0 (mm_A o ad)) (F0 m 2 ls []) := by
  unfold M_takesWord_b2F at hf
  refine lv_iload_n C.1 C.2.1 (dd_at td_takesWord 2 rfl) rfl (lv_at hl 3 rfl) ?_
  refine lv_iload_n C.1 C.2.1 (dd_at td_takesWord 3 rfl) rfl (lv_at hl 2 rfl) ?_
  refine lv_icmp_ge (tgt := 30) C.1 C.2.1 (dd_at td_takesWord 4 rfl) (by decide) (fun c1 => ?_) (fun c1 => ?_)
  · replace hf := fc_of_t hf c1
    refine lv_aload_n C.1 C.2.1 (dd_at td_takesWord 18 rfl) rfl (lv_at hl 0 rfl) ?_
    refine lv_bipush (v := (32 : Int32)) C.1 C.2.1 (dd_at td_takesWord 19 rfl) (by decide) ?_
    obtain ⟨r4, st2, hx3, hf⟩ := fc_of_bn hf
    refine mm_ci (As := [.int (32 : Int32)]) (rest := []) (n := 1) C hM (c_takes l D o ad cs fu (32 : Int32) st) (List.mem_of_getElem? (i := 38) rfl) (dd_at td_takesWord 20 rfl) hx3 hl.1 hd_takes ⟨Nat.le_of_ble_eq_true rfl, Nat.le_of_ble_eq_true rfl⟩ rfl rfl (Nat.le_of_ble_eq_true rfl) ⟨Nat.le_refl 0, Nat.le_refl 0⟩ (fun H locs hM => ?_)
    obtain ⟨g5, hf⟩ := fc_of_gd hf
    exact mm_rz C hM (dd_at td_takesWord 21 rfl) (fc_of_zb g5) hf
  · replace hf := fc_of_f hf c1
    refine lv_aload_n C.1 C.2.1 (dd_at td_takesWord 5 rfl) rfl (lv_at hl 0 rfl) ?_
    refine lv_aload_n C.1 C.2.1 (dd_at td_takesWord 6 rfl) rfl (lv_at hl 0 rfl) ?_
    refine mm_gA C hM 24 (dd_at td_takesWord 7 rfl) (by decide) (by decide) (by decide) ?_
    refine lv_iload_n C.1 C.2.1 (dd_at td_takesWord 8 rfl) rfl (lv_at hl 1 rfl) ?_
    refine lv_iload_n C.1 C.2.1 (dd_at td_takesWord 9 rfl) rfl (lv_at hl 3 rfl) ?_
    refine lv_iadd C.1 C.2.1 (dd_at td_takesWord 10 rfl) ?_
    obtain ⟨g6, hf⟩ := fc_of_gd hf
    refine mm_iald C hM 24 (dd_at td_takesWord 11 rfl) (by decide) (by decide) (fc_of_ix g6) ?_
    obtain ⟨r9, st7, hx8, hf⟩ := fc_of_bn hf
    refine mm_ci (As := [.int (mm_G st 24 (x1 + x3).toNatClampNeg)]) (rest := []) (n := 1) C hM (c_takes l D o ad cs fu (mm_G st 24 (x1 + x3).toNatClampNeg) st) (List.mem_of_getElem? (i := 38) rfl) (dd_at td_takesWord 12 rfl) hx8 hl.1 hd_takes ⟨Nat.le_of_ble_eq_true rfl, Nat.le_of_ble_eq_true rfl⟩ rfl rfl (Nat.le_of_ble_eq_true rfl) ⟨Nat.le_refl 0, Nat.le_refl 0⟩ (fun H locs hM => ?_)
    refine lv_if_ne (tgt := 24) C.1 C.2.1 (dd_at td_takesWord 13 rfl) (by decide) (fun c10 => ?_) (fun c10 => ?_)
    · replace hf := fc_of_f hf c10
      obtain ⟨x11, ex11⟩ : ∃ y : Int32, y = x3 + (1 : Int32) := ⟨_, rfl⟩
      replace hf := fc_of_nm hf x11 ex11
      refine lv_iinc (v := x11) (lv' := [(3, .int x11), (0, .ref o), (1, .int x1), (2, .int x2)]) C.1 C.2.1 (dd_at td_takesWord 16 rfl) hl (k := 3) rfl (by rw [ex11]; rfl) (by decide) rfl (fun ls hl => ?_)
      refine lv_goto (tgt := 2) C.1 C.2.1 (dd_at td_takesWord 17 rfl) (by decide) ?_
      exact hK2 x1 x2 x11 st7 _ _ _ hf (lv_sub hl [1, 2, 3, 0] rfl) hM
    · replace hf := fc_of_t hf c10
      refine lv_iconst (v := (0 : Int32)) C.1 C.2.1 (dd_at td_takesWord 14 rfl) (by decide) ?_
      exact mm_rz C hM (dd_at td_takesWord 15 rfl) rfl hf
theorem w_takesWord_b2 {p : Program} {l : Launch} {e : Env} {s : State} {m : MethodId} {args : Array Value} {below : List Frame} {meth : Method} {c : Code} {D : va_G} {o : Nat} {ad : Nat → Nat} {cs : ClassId × ClassId × ClassId} {r : Int32} {st' : mm_S} (C : mm_C p s m args meth c cX12_takesWord 4 (some .boolean) D cs) (fu : Nat) (n : Nat) : ∀ (x1 : Int32) (x2 : Int32) (x3 : Int32) (st : mm_S), M_takesWord_b2 fu n x1 x2 x3 st = some (r, st') → ∀ (H : Heap) (locs : List Loc) (ls : Array Slot), lv_has ls 4 [(0, .ref o), (1, .int x1), (2, .int x2), (3, .int x3)] → mm_H D o ad cs s.heap st H locs → W p l e (mm_R 2 41) s m args below meth c H locs 0 0 (MQ below (mm_Qi D o ad cs r st') args s 0 0 (mm_A o ad)) (F0 m 2 ls []) := by
  induction n with
  | zero => exact fun _ _ _ _ hf => fc_no hf
  | succ n ih =>
    intro x1 x2 x3 st hf H locs ls hl hM
    exact w_takesWord_b2F C fu (fun x1 x2 x3 st => M_takesWord_b2 fu n x1 x2 x3 st) (fun x1 x2 x3 st H locs ls hf hl hM => ih x1 x2 x3 st hf H locs ls hl hM) x1 x2 x3 st hf hl hM
theorem w_takesWord {p : Program} {l : Launch} {e : Env} {s : State} {m : MethodId} {args : Array Value} {below : List Frame} {meth : Method} {c : Code} {D : va_G} {o : Nat} {ad : Nat → Nat} {cs : ClassId × ClassId × ClassId} {r : Int32} {st' : mm_S} (C : mm_C p s m args meth c cX12_takesWord 4 (some .boolean) D cs) (fu : Nat) (x1 : Int32) (x2 : Int32) (st : mm_S) (hf : M_takesWord fu x1 x2 st = some (r, st')) {H : Heap} {locs : List Loc} {ls : Array Slot} (hl : lv_has ls 4 [(0, .ref o), (1, .int x1), (2, .int x2)]) (hM : mm_H D o ad cs s.heap st H locs) : W p l e (mm_R 2 41) s m args below meth c H locs 0 0 (MQ below (mm_Qi D o ad cs r st') args s 0 0 (mm_A o ad)) (F0 m 0 ls []) := by
  unfold M_takesWord at hf
  refine lv_iconst (v := (0 : Int32)) C.1 C.2.1 (dd_at td_takesWord 0 rfl) (by decide) ?_
  refine lv_istore_n (lv' := [(3, .int (0 : Int32)), (0, .ref o), (1, .int x1), (2, .int x2)]) C.1 C.2.1 (dd_at td_takesWord 1 rfl) rfl hl (by decide) rfl (fun ls hl => ?_)
  exact w_takesWord_b2 C fu fu x1 x2 (0 : Int32) st hf _ _ _ (lv_sub hl [1, 2, 3, 0] rfl) hM
theorem c_takesWord (l : Launch) (D : va_G) (o : Nat) (ad : Nat → Nat) (cs : ClassId × ClassId × ClassId) (fu : Nat) (x1 : Int32) (x2 : Int32) (st : mm_S) : mm_Mi l D o ad cs yX12_takesWord cX12_takesWord 4 (some .boolean) 2 41 [.int x1, .int x2] st (M_takesWord fu x1 x2 st) := by
  intro r st' hf
  refine mm_enter (cc := cX12_takesWord) (nL := 4) (ret := some .boolean) (by decide) rfl (Nat.le_of_ble_eq_true rfl) ?_
  intro p e s m args below meth c ls C hl hM
  exact w_takesWord C fu x1 x2 st hf hl hM

/-! isDigit -/
def tb_isDigit : List (Nat × Instr × Nat) := [(0, .aload_n 0, 1), (1, .aload_n 0, 1), (2, .invokevirtual 218, 3), (5, .bipush 48, 2), (7, .bipush 57, 2), (9, .invokevirtual 207, 3), (12, .ireturn, 1)]
theorem td_isDigit : tb_isDigit.all (fun q => decide (decode cX12_isDigit q.1 = .ok (q.2.1, q.2.2))) = true := by decide +kernel
theorem hd_isDigit : yX12_isDigit.cls = RX12 ∧ yX12_isDigit.cls ≠ "java/lang/invoke/MethodHandle" ∧ yX12_isDigit.cls ≠ "java/lang/invoke/VarHandle" ∧ (parseMethodDescriptor yX12_isDigit.desc).map (fun d => d.parameters.length) = some 0 := by decide +kernel
theorem w_isDigit {p : Program} {l : Launch} {e : Env} {s : State} {m : MethodId} {args : Array Value} {below : List Frame} {meth : Method} {c : Code} {D : va_G} {o : Nat} {ad : Nat → Nat} {cs : ClassId × ClassId × ClassId} {r : Int32} {st' : mm_S} (C : mm_C p s m args meth c cX12_isDigit 1 (some .boolean) D cs) (fu : Nat) (st : mm_S) (hf : M_isDigit fu st = some (r, st')) {H : Heap} {locs : List Loc} {ls : Array Slot} (hl : lv_has ls 1 [(0, .ref o)]) (hM : mm_H D o ad cs s.heap st H locs) : W p l e (mm_R 1 23) s m args below meth c H locs 0 0 (MQ below (mm_Qi D o ad cs r st') args s 0 0 (mm_A o ad)) (F0 m 0 ls []) := by
  unfold M_isDigit at hf
  refine lv_aload_n C.1 C.2.1 (dd_at td_isDigit 0 rfl) rfl (lv_at hl 0 rfl) ?_
  refine lv_aload_n C.1 C.2.1 (dd_at td_isDigit 1 rfl) rfl (lv_at hl 0 rfl) ?_
  obtain ⟨r3, st1, hx2, hf⟩ := fc_of_bn hf
  refine mm_ci (As := []) (rest := [.ref o]) (n := 0) C hM (c_next l D o ad cs fu st) (List.mem_of_getElem? (i := 33) rfl) (dd_at td_isDigit 2 rfl) hx2 hl.1 hd_next ⟨Nat.le_of_ble_eq_true rfl, Nat.le_of_ble_eq_true rfl⟩ rfl rfl (Nat.le_of_ble_eq_true rfl) ⟨Nat.le_refl 0, Nat.le_refl 0⟩ (fun H locs hM => ?_)
  refine lv_bipush (v := (48 : Int32)) C.1 C.2.1 (dd_at td_isDigit 3 rfl) (by decide) ?_
  refine lv_bipush (v := (57 : Int32)) C.1 C.2.1 (dd_at td_isDigit 4 rfl) (by decide) ?_
  obtain ⟨r6, st4, hx5, hf⟩ := fc_of_bn hf
  refine mm_ci (As := [.int r3, .int (48 : Int32), .int (57 : Int32)]) (rest := []) (n := 3) C hM (c_in l D o ad cs fu r3 (48 : Int32) (57 : Int32) st1) (List.mem_of_getElem? (i := 18) rfl) (dd_at td_isDigit 5 rfl) hx5 hl.1 hd_in ⟨Nat.le_of_ble_eq_true rfl, Nat.le_of_ble_eq_true rfl⟩ rfl rfl (Nat.le_of_ble_eq_true rfl) ⟨Nat.le_refl 0, Nat.le_refl 0⟩ (fun H locs hM => ?_)
  obtain ⟨g7, hf⟩ := fc_of_gd hf
  exact mm_rz C hM (dd_at td_isDigit 6 rfl) (fc_of_zb g7) hf
theorem c_isDigit (l : Launch) (D : va_G) (o : Nat) (ad : Nat → Nat) (cs : ClassId × ClassId × ClassId) (fu : Nat) (st : mm_S) : mm_Mi l D o ad cs yX12_isDigit cX12_isDigit 1 (some .boolean) 1 23 [] st (M_isDigit fu st) := by
  intro r st' hf
  refine mm_enter (cc := cX12_isDigit) (nL := 1) (ret := some .boolean) (by decide) rfl (Nat.le_of_ble_eq_true rfl) ?_
  intro p e s m args below meth c ls C hl hM
  exact w_isDigit C fu st hf hl hM

/-! takesNumber -/
def tb_takesNumber : List (Nat × Instr × Nat) := [(0, .aload_n 0, 1), (1, .invokevirtual 225, 3), (4, .ifCond .ne 5, 3), (7, .iconst 0, 1), (8, .ireturn, 1), (9, .aload_n 0, 1), (10, .iconst 0, 1), (11, .putfield 47, 3), (14, .iconst 0, 1), (15, .istore_n 1, 1), (16, .iload_n 1, 1), (17, .iconst 2, 1), (18, .if_icmp .ge 45, 3), (21, .aload_n 0, 1), (22, .invokevirtual 225, 3), (25, .ifCond .eq 38, 3), (28, .aload_n 0, 1), (29, .bipush 10, 2), (31, .aload_n 0, 1), (32, .getfield 47, 3), (35, .imul, 1), (36, .aload_n 0, 1), (37, .invokevirtual 218, 3), (40, .iadd, 1), (41, .bipush 48, 2), (43, .isub, 1), (44, .putfield 47, 3), (47, .aload_n 0, 1), (48, .dup, 1), (49, .getfield 44, 3), (52, .iconst 1, 1), (53, .iadd, 1), (54, .putfield 44, 3), (57, .iinc 1 1, 3), (60, .goto (-44), 3), (63, .iconst 1, 1), (64, .ireturn, 1)]
theorem td_takesNumber : tb_takesNumber.all (fun q => decide (decode cX12_takesNumber q.1 = .ok (q.2.1, q.2.2))) = true := by decide +kernel
theorem hd_takesNumber : yX12_takesNumber.cls = RX12 ∧ yX12_takesNumber.cls ≠ "java/lang/invoke/MethodHandle" ∧ yX12_takesNumber.cls ≠ "java/lang/invoke/VarHandle" ∧ (parseMethodDescriptor yX12_takesNumber.desc).map (fun d => d.parameters.length) = some 0 := by decide +kernel
theorem w_takesNumber_b16F {p : Program} {l : Launch} {e : Env} {s : State} {m : MethodId} {args : Array Value} {below : List Frame} {meth : Method} {c : Code} {D : va_G} {o : Nat} {ad : Nat → Nat} {cs : ClassId × ClassId × ClassId} {r : Int32} {st' : mm_S} (C : mm_C p s m args meth c cX12_takesNumber 2 (some .boolean) D cs) (fu : Nat) (K16 : Int32 → mm_S → Option (Int32 × mm_S)) (hK16 : ∀ (x1 : Int32) (st : mm_S) (H : Heap) (locs : List Loc) (ls : Array Slot), K16 x1 st = some (r, st') → lv_has ls 2 [(0, .ref o), (1, .int x1)] → mm_H D o ad cs s.heap st H locs → W p l e (mm_R 2 43) s m args below meth c H locs 0 0 (MQ below (mm_Qi D o ad cs r st') args s 0 0 (mm_A o ad)) (F0 m 16 ls [])) (x1 : Int32) (st : mm_S) (hf : M_takesNumber_b16F fu K16 x1 st = some (r, st')) {H : Heap} {locs : List Loc} {ls : Array Slot} (hl : lv_has ls 2 [(0, .ref o), (1, .int x1)]) (hM : mm_H D o ad cs s.heap st H locs) : W p l e (mm_R 2 43) s m args below meth c H locs 0 0 (MQ below (mm_Qi D o ad cs r st') args s 0 0 (mm_A o ad)) (F0 m 16 ls []) := by
  unfold M_takesNumber_b16F at hf
  refine lv_iload_n C.1 C.2.1 (dd_at td_takesNumber 10 rfl) rfl (lv_at hl 1 rfl) ?_
  refine lv_iconst (v := (2 : Int32)) C.1 C.2.1 (dd_at td_takesNumber 11 rfl) (by decide) ?_
  refine lv_icmp_ge (tgt := 63) C.1 C.2.1 (dd_at td_takesNumber 12 rfl) (by decide) (fun c6 => ?_) (fun c6 => ?_)
  · replace hf := fc_of_t hf c6
    refine lv_iconst (v := (1 : Int32)) C.1 C.2.1 (dd_at td_takesNumber 35 rfl) (by decide) ?_
    exact mm_rz C hM (dd_at td_takesNumber 36 rfl) rfl hf
  · replace hf := fc_of_f hf c6
    refine lv_aload_n C.1 C.2.1 (dd_at td_takesNumber 13 rfl) rfl (lv_at hl 0 rfl) ?_
    obtain ⟨r9, st7, hx8, hf⟩ := fc_of_bn hf
    refine mm_ci (As := []) (rest := []) (n := 0) C hM (c_isDigit l D o ad cs fu st) (List.mem_of_getElem? (i := 21) rfl) (dd_at td_takesNumber 14 rfl) hx8 hl.1 hd_isDigit ⟨Nat.le_of_ble_eq_true rfl, Nat.le_of_ble_eq_true rfl⟩ rfl rfl (Nat.le_of_ble_eq_true rfl) ⟨Nat.le_refl 0, Nat.le_refl 0⟩ (fun H locs hM => ?_)
    refine lv_if_eq (tgt := 63) C.1 C.2.1 (dd_at td_takesNumber 15 rfl) (by decide) (fun c10 => ?_) (fun c10 => ?_)
    · replace hf := fc_of_t hf c10
      refine lv_iconst (v := (1 : Int32)) C.1 C.2.1 (dd_at td_takesNumber 35 rfl) (by decide) ?_
      exact mm_rz C hM (dd_at td_takesNumber 36 rfl) rfl hf
    · replace hf := fc_of_f hf c10
      refine lv_aload_n C.1 C.2.1 (dd_at td_takesNumber 16 rfl) rfl (lv_at hl 0 rfl) ?_
      refine lv_bipush (v := (10 : Int32)) C.1 C.2.1 (dd_at td_takesNumber 17 rfl) (by decide) ?_
      refine lv_aload_n C.1 C.2.1 (dd_at td_takesNumber 18 rfl) rfl (lv_at hl 0 rfl) ?_
      refine mm_gI C hM 12 (dd_at td_takesNumber 19 rfl) (by decide) (by decide) (by decide) ?_
      refine lv_imul C.1 C.2.1 (dd_at td_takesNumber 20 rfl) ?_
      refine lv_aload_n C.1 C.2.1 (dd_at td_takesNumber 21 rfl) rfl (lv_at hl 0 rfl) ?_
      obtain ⟨r13, st11, hx12, hf⟩ := fc_of_bn hf
      refine mm_ci (As := []) (rest := [.int ((10 : Int32) * (mm_I st7 12)), .ref o]) (n := 0) C hM (c_next l D o ad cs fu st7) (List.mem_of_getElem? (i := 33) rfl) (dd_at td_takesNumber 22 rfl) hx12 hl.1 hd_next ⟨Nat.le_of_ble_eq_true rfl, Nat.le_of_ble_eq_true rfl⟩ rfl rfl (Nat.le_of_ble_eq_true rfl) ⟨Nat.le_refl 0, Nat.le_refl 0⟩ (fun H locs hM => ?_)
      refine lv_iadd C.1 C.2.1 (dd_at td_takesNumber 23 rfl) ?_
      refine lv_bipush (v := (48 : Int32)) C.1 C.2.1 (dd_at td_takesNumber 24 rfl) (by decide) ?_
      refine lv_isub C.1 C.2.1 (dd_at td_takesNumber 25 rfl) ?_
      refine mm_pI C hM 12 (dd_at td_takesNumber 26 rfl) (by decide) (by decide) (by decide) rfl rfl (fun st14 H locs est14 hM => ?_)
      replace hf := fc_of_nm hf st14 est14
      refine lv_aload_n C.1 C.2.1 (dd_at td_takesNumber 27 rfl) rfl (lv_at hl 0 rfl) ?_
      refine lv_dup C.1 C.2.1 (dd_at td_takesNumber 28 rfl) rfl ?_
      refine mm_gI C hM 11 (dd_at td_takesNumber 29 rfl) (by decide) (by decide) (by decide) ?_
      refine lv_iconst (v := (1 : Int32)) C.1 C.2.1 (dd_at td_takesNumber 30 rfl) (by decide) ?_
      refine lv_iadd C.1 C.2.1 (dd_at td_takesNumber 31 rfl) ?_
      refine mm_pI C hM 11 (dd_at td_takesNumber 32 rfl) (by decide) (by decide) (by decide) rfl rfl (fun st15 H locs est15 hM => ?_)
      replace hf := fc_of_nm hf st15 est15
      obtain ⟨x16, ex16⟩ : ∃ y : Int32, y = x1 + (1 : Int32) := ⟨_, rfl⟩
      replace hf := fc_of_nm hf x16 ex16
      refine lv_iinc (v := x16) (lv' := [(1, .int x16), (0, .ref o)]) C.1 C.2.1 (dd_at td_takesNumber 33 rfl) hl (k := 1) rfl (by rw [ex16]; rfl) (by decide) rfl (fun ls hl => ?_)
      refine lv_goto (tgt := 16) C.1 C.2.1 (dd_at td_takesNumber 34 rfl) (by decide) ?_
      exact hK16 x16 st15 _ _ _ hf (lv_sub hl [1, 0] rfl) hM
theorem w_takesNumber_b16 {p : Program} {l : Launch} {e : Env} {s : State} {m : MethodId} {args : Array Value} {below : List Frame} {meth : Method} {c : Code} {D : va_G} {o : Nat} {ad : Nat → Nat} {cs : ClassId × ClassId × ClassId} {r : Int32} {st' : mm_S} (C : mm_C p s m args meth c cX12_takesNumber 2 (some .boolean) D cs) (fu : Nat) (n : Nat) : ∀ (x1 : Int32) (st : mm_S), M_takesNumber_b16 fu n x1 st = some (r, st') → ∀ (H : Heap) (locs : List Loc) (ls : Array Slot), lv_has ls 2 [(0, .ref o), (1, .int x1)] → mm_H D o ad cs s.heap st H locs → W p l e (mm_R 2 43) s m args below meth c H locs 0 0 (MQ below (mm_Qi D o ad cs r st') args s 0 0 (mm_A o ad)) (F0 m 16 ls []) := by
  induction n with
  | zero => exact fun _ _ hf => fc_no hf
  | succ n ih =>
    intro x1 st hf H locs ls hl hM
    exact w_takesNumber_b16F C fu (fun x1 st => M_takesNumber_b16 fu n x1 st) (fun x1 st H locs ls hf hl hM => ih x1 st hf H locs ls hl hM) x1 st hf hl hM
theorem w_takesNumber {p : Program} {l : Launch} {e : Env} {s : State} {m : MethodId} {args : Array Value} {below : List Frame} {meth : Method} {c : Code} {D : va_G} {o : Nat} {ad : Nat → Nat} {cs : ClassId × ClassId × ClassId} {r : Int32} {st' : mm_S} (C : mm_C p s m args meth c cX12_takesNumber 2 (some .boolean) D cs) (fu : Nat) (st : mm_S) (hf : M_takesNumber fu st = some (r, st')) {H : Heap} {locs : List Loc} {ls : Array Slot} (hl : lv_has ls 2 [(0, .ref o)]) (hM : mm_H D o ad cs s.heap st H locs) : W p l e (mm_R 2 43) s m args below meth c H locs 0 0 (MQ below (mm_Qi D o ad cs r st') args s 0 0 (mm_A o ad)) (F0 m 0 ls []) := by
  unfold M_takesNumber at hf
  refine lv_aload_n C.1 C.2.1 (dd_at td_takesNumber 0 rfl) rfl (lv_at hl 0 rfl) ?_
  obtain ⟨r3, st1, hx2, hf⟩ := fc_of_bn hf
  refine mm_ci (As := []) (rest := []) (n := 0) C hM (c_isDigit l D o ad cs fu st) (List.mem_of_getElem? (i := 21) rfl) (dd_at td_takesNumber 1 rfl) hx2 hl.1 hd_isDigit ⟨Nat.le_of_ble_eq_true rfl, Nat.le_of_ble_eq_true rfl⟩ rfl rfl (Nat.le_of_ble_eq_true rfl) ⟨Nat.le_refl 0, Nat.le_refl 0⟩ (fun H locs hM => ?_)
  refine lv_if_ne (tgt := 9) C.1 C.2.1 (dd_at td_takesNumber 2 rfl) (by decide) (fun c4 => ?_) (fun c4 => ?_)
  · replace hf := fc_of_f hf c4
    refine lv_aload_n C.1 C.2.1 (dd_at td_takesNumber 5 rfl) rfl (lv_at hl 0 rfl) ?_
    refine lv_iconst (v := (0 : Int32)) C.1 C.2.1 (dd_at td_takesNumber 6 rfl) (by decide) ?_
    refine mm_pI C hM 12 (dd_at td_takesNumber 7 rfl) (by decide) (by decide) (by decide) rfl rfl (fun st5 H locs est5 hM => ?_)
    replace hf := fc_of_nm hf st5 est5
    refine lv_iconst (v := (0 : Int32)) C.1 C.2.1 (dd_at td_takesNumber 8 rfl) (by decide) ?_
    refine lv_istore_n (lv' := [(1, .int (0 : Int32)), (0, .ref o)]) C.1 C.2.1 (dd_at td_takesNumber 9 rfl) rfl hl (by decide) rfl (fun ls hl => ?_)
    exact w_takesNumber_b16 C fu fu (0 : Int32) st5 hf _ _ _ (lv_sub hl [1, 0] rfl) hM
  · replace hf := fc_of_t hf c4
    refine lv_iconst (v := (0 : Int32)) C.1 C.2.1 (dd_at td_takesNumber 3 rfl) (by decide) ?_
    exact mm_rz C hM (dd_at td_takesNumber 4 rfl) rfl hf
theorem c_takesNumber (l : Launch) (D : va_G) (o : Nat) (ad : Nat → Nat) (cs : ClassId × ClassId × ClassId) (fu : Nat) (st : mm_S) : mm_Mi l D o ad cs yX12_takesNumber cX12_takesNumber 2 (some .boolean) 2 43 [] st (M_takesNumber fu st) := by
  intro r st' hf
  refine mm_enter (cc := cX12_takesNumber) (nL := 2) (ret := some .boolean) (by decide) rfl (Nat.le_of_ble_eq_true rfl) ?_
  intro p e s m args below meth c ls C hl hM
  exact w_takesNumber C fu st hf hl hM

/-! emits -/
def tb_emits : List (Nat × Instr × Nat) := [(0, .aload_n 0, 1), (1, .getfield 68, 3), (4, .aload_n 0, 1), (5, .getfield 74, 3), (8, .iload_n 1, 1), (9, .iastore, 1), (10, .aload_n 0, 1), (11, .dup, 1), (12, .getfield 74, 3), (15, .iconst 1, 1), (16, .iadd, 1), (17, .putfield 74, 3), (20, .return_, 1)]
theorem td_emits : tb_emits.all (fun q => decide (decode cX12_emits q.1 = .ok (q.2.1, q.2.2))) = true := by decide +kernel
theorem hd_emits : yX12_emits.cls = RX12 ∧ yX12_emits.cls ≠ "java/lang/invoke/MethodHandle" ∧ yX12_emits.cls ≠ "java/lang/invoke/VarHandle" ∧ (parseMethodDescriptor yX12_emits.desc).map (fun d => d.parameters.length) = some 1 := by decide +kernel
theorem w_emits {p : Program} {l : Launch} {e : Env} {s : State} {m : MethodId} {args : Array Value} {below : List Frame} {meth : Method} {c : Code} {D : va_G} {o : Nat} {ad : Nat → Nat} {cs : ClassId × ClassId × ClassId} {st' : mm_S} (C : mm_C p s m args meth c cX12_emits 2 (none) D cs) (fu : Nat) (x1 : Int32) (st : mm_S) (hf : M_emits fu x1 st = some st') {H : Heap} {locs : List Loc} {ls : Array Slot} (hl : lv_has ls 2 [(0, .ref o), (1, .int x1)]) (hM : mm_H D o ad cs s.heap st H locs) : W p l e (mm_R 0 0) s m args below meth c H locs 0 0 (MQ below (mm_Qv D o ad cs st') args s 0 0 (mm_A o ad)) (F0 m 0 ls []) := by
  unfold M_emits at hf
  refine lv_aload_n C.1 C.2.1 (dd_at td_emits 0 rfl) rfl (lv_at hl 0 rfl) ?_
  refine mm_gA C hM 19 (dd_at td_emits 1 rfl) (by decide) (by decide) (by decide) ?_
  refine lv_aload_n C.1 C.2.1 (dd_at td_emits 2 rfl) rfl (lv_at hl 0 rfl) ?_
  refine mm_gI C hM 21 (dd_at td_emits 3 rfl) (by decide) (by decide) (by decide) ?_
  refine lv_iload_n C.1 C.2.1 (dd_at td_emits 4 rfl) rfl (lv_at hl 1 rfl) ?_
  obtain ⟨g1, hf⟩ := fc_of_gd hf
  refine mm_iast C hM 19 (dd_at td_emits 5 rfl) (by decide) (by decide) (fc_of_ix g1) (fun st2 H locs est2 hM => ?_)
  replace hf := fc_of_nm hf st2 est2
  refine lv_aload_n C.1 C.2.1 (dd_at td_emits 6 rfl) rfl (lv_at hl 0 rfl) ?_
  refine lv_dup C.1 C.2.1 (dd_at td_emits 7 rfl) rfl ?_
  refine mm_gI C hM 21 (dd_at td_emits 8 rfl) (by decide) (by decide) (by decide) ?_
  refine lv_iconst (v := (1 : Int32)) C.1 C.2.1 (dd_at td_emits 9 rfl) (by decide) ?_
  refine lv_iadd C.1 C.2.1 (dd_at td_emits 10 rfl) ?_
  refine mm_pI C hM 21 (dd_at td_emits 11 rfl) (by decide) (by decide) (by decide) rfl rfl (fun st3 H locs est3 hM => ?_)
  replace hf := fc_of_nm hf st3 est3
  exact mm_rv C hM (dd_at td_emits 12 rfl) hf
theorem c_emits (l : Launch) (D : va_G) (o : Nat) (ad : Nat → Nat) (cs : ClassId × ClassId × ClassId) (fu : Nat) (x1 : Int32) (st : mm_S) : mm_Mv l D o ad cs yX12_emits cX12_emits 2 (none) 0 0 [.int x1] st (M_emits fu x1 st) := by
  intro st' hf
  refine mm_enter (cc := cX12_emits) (nL := 2) (ret := none) (by decide) rfl (Nat.le_of_ble_eq_true rfl) ?_
  intro p e s m args below meth c ls C hl hM
  exact w_emits C fu x1 st hf hl hM

/-! whole -/
def tb_whole : List (Nat × Instr × Nat) := [(0, .aload_n 0, 1), (1, .getfield 77, 3), (4, .ifCond .le 48, 3), (7, .aload_n 0, 1), (8, .getfield 71, 3), (11, .aload_n 0, 1), (12, .getfield 77, 3), (15, .iconst 1, 1), (16, .isub, 1), (17, .iaload, 1), (18, .bipush 33, 2), (20, .if_icmp .ne 32, 3), (23, .aload_n 0, 1), (24, .bipush (-33), 2), (26, .invokevirtual 229, 3), (29, .aload_n 0, 1), (30, .dup, 1), (31, .getfield 77, 3), (34, .iconst 1, 1), (35, .isub, 1), (36, .putfield 77, 3), (39, .aload_n 0, 1), (40, .dup, 1), (41, .getfield 80, 3), (44, .iconst 1, 1), (45, .isub, 1), (46, .putfield 80, 3), (49, .goto (-49), 3), (52, .return_, 1)]
theorem td_whole : tb_whole.all (fun q => decide (decode cX12_whole q.1 = .ok (q.2.1, q.2.2))) = true := by decide +kernel
theorem hd_whole : yX12_whole.cls = RX12 ∧ yX12_whole.cls ≠ "java/lang/invoke/MethodHandle" ∧ yX12_whole.cls ≠ "java/lang/invoke/VarHandle" ∧ (parseMethodDescriptor yX12_whole.desc).map (fun d => d.parameters.length) = some 0 := by decide +kernel
theorem w_whole_b0F {p : Program} {l : Launch} {e : Env} {s : State} {m : MethodId} {args : Array Value} {below : List Frame} {meth : Method} {c : Code} {D : va_G} {o : Nat} {ad : Nat → Nat} {cs : ClassId × ClassId × ClassId} {st' : mm_S} (C : mm_C p s m args meth c cX12_whole 1 (none) D cs) (fu : Nat) (K0 : mm_S → Option mm_S) (hK0 : ∀ (st : mm_S) (H : Heap) (locs : List Loc) (ls : Array Slot), K0 st = some st' → lv_has ls 1 [(0, .ref o)] → mm_H D o ad cs s.heap st H locs → W p l e (mm_R 1 21) s m args below meth c H locs 0 0 (MQ below (mm_Qv D o ad cs st') args s 0 0 (mm_A o ad)) (F0 m 0 ls [])) (st : mm_S) (hf : M_whole_b0F fu K0 st = some st') {H : Heap} {locs : List Loc} {ls : Array Slot} (hl : lv_has ls 1 [(0, .ref o)]) (hM : mm_H D o ad cs s.heap st H locs) : W p l e (mm_R 1 21) s m args below meth c H locs 0 0 (MQ below (mm_Qv D o ad cs st') args s 0 0 (mm_A o ad)) (F0 m 0 ls []) := by
  unfold M_whole_b0F at hf
  refine lv_aload_n C.1 C.2.1 (dd_at td_whole 0 rfl) rfl (lv_at hl 0 rfl) ?_
  refine mm_gI C hM 22 (dd_at td_whole 1 rfl) (by decide) (by decide) (by decide) ?_
  refine lv_if_le (tgt := 52) C.1 C.2.1 (dd_at td_whole 2 rfl) (by decide) (fun c1 => ?_) (fun c1 => ?_)
  · replace hf := fc_of_t hf c1
    exact mm_rv C hM (dd_at td_whole 28 rfl) hf
  · replace hf := fc_of_f hf c1
    refine lv_aload_n C.1 C.2.1 (dd_at td_whole 3 rfl) rfl (lv_at hl 0 rfl) ?_
    refine mm_gA C hM 20 (dd_at td_whole 4 rfl) (by decide) (by decide) (by decide) ?_
    refine lv_aload_n C.1 C.2.1 (dd_at td_whole 5 rfl) rfl (lv_at hl 0 rfl) ?_
    refine mm_gI C hM 22 (dd_at td_whole 6 rfl) (by decide) (by decide) (by decide) ?_
    refine lv_iconst (v := (1 : Int32)) C.1 C.2.1 (dd_at td_whole 7 rfl) (by decide) ?_
    refine lv_isub C.1 C.2.1 (dd_at td_whole 8 rfl) ?_
    obtain ⟨g2, hf⟩ := fc_of_gd hf
    refine mm_iald C hM 20 (dd_at td_whole 9 rfl) (by decide) (by decide) (fc_of_ix g2) ?_
    refine lv_bipush (v := (33 : Int32)) C.1 C.2.1 (dd_at td_whole 10 rfl) (by decide) ?_
    refine lv_icmp_ne (tgt := 52) C.1 C.2.1 (dd_at td_whole 11 rfl) (by decide) (fun c3 => ?_) (fun c3 => ?_)
    · replace hf := fc_of_f hf c3
      exact mm_rv C hM (dd_at td_whole 28 rfl) hf
    · replace hf := fc_of_t hf c3
      refine lv_aload_n C.1 C.2.1 (dd_at td_whole 12 rfl) rfl (lv_at hl 0 rfl) ?_
      refine lv_bipush (v := (-33 : Int32)) C.1 C.2.1 (dd_at td_whole 13 rfl) (by decide) ?_
      obtain ⟨st4, hx5, hf⟩ := fc_of_bv hf
      refine mm_cv (As := [.int (-33 : Int32)]) (rest := []) (n := 1) C hM (c_emits l D o ad cs fu (-33 : Int32) st) (List.mem_of_getElem? (i := 8) rfl) (dd_at td_whole 14 rfl) hx5 hl.1 hd_emits ⟨Nat.le_of_ble_eq_true rfl, Nat.le_of_ble_eq_true rfl⟩ rfl rfl (Nat.le_of_ble_eq_true rfl) ⟨Nat.le_refl 0, Nat.le_refl 0⟩ (fun H locs hM => ?_)
      refine lv_aload_n C.1 C.2.1 (dd_at td_whole 15 rfl) rfl (lv_at hl 0 rfl) ?_
      refine lv_dup C.1 C.2.1 (dd_at td_whole 16 rfl) rfl ?_
      refine mm_gI C hM 22 (dd_at td_whole 17 rfl) (by decide) (by decide) (by decide) ?_
      refine lv_iconst (v := (1 : Int32)) C.1 C.2.1 (dd_at td_whole 18 rfl) (by decide) ?_
      refine lv_isub C.1 C.2.1 (dd_at td_whole 19 rfl) ?_
      refine mm_pI C hM 22 (dd_at td_whole 20 rfl) (by decide) (by decide) (by decide) rfl rfl (fun st6 H locs est6 hM => ?_)
      replace hf := fc_of_nm hf st6 est6
      refine lv_aload_n C.1 C.2.1 (dd_at td_whole 21 rfl) rfl (lv_at hl 0 rfl) ?_
      refine lv_dup C.1 C.2.1 (dd_at td_whole 22 rfl) rfl ?_
      refine mm_gI C hM 23 (dd_at td_whole 23 rfl) (by decide) (by decide) (by decide) ?_
      refine lv_iconst (v := (1 : Int32)) C.1 C.2.1 (dd_at td_whole 24 rfl) (by decide) ?_
      refine lv_isub C.1 C.2.1 (dd_at td_whole 25 rfl) ?_
      refine mm_pI C hM 23 (dd_at td_whole 26 rfl) (by decide) (by decide) (by decide) rfl rfl (fun st7 H locs est7 hM => ?_)
      replace hf := fc_of_nm hf st7 est7
      refine lv_goto (tgt := 0) C.1 C.2.1 (dd_at td_whole 27 rfl) (by decide) ?_
      exact hK0 st7 _ _ _ hf (lv_sub hl [0] rfl) hM
theorem w_whole_b0 {p : Program} {l : Launch} {e : Env} {s : State} {m : MethodId} {args : Array Value} {below : List Frame} {meth : Method} {c : Code} {D : va_G} {o : Nat} {ad : Nat → Nat} {cs : ClassId × ClassId × ClassId} {st' : mm_S} (C : mm_C p s m args meth c cX12_whole 1 (none) D cs) (fu : Nat) (n : Nat) : ∀ (st : mm_S), M_whole_b0 fu n st = some st' → ∀ (H : Heap) (locs : List Loc) (ls : Array Slot), lv_has ls 1 [(0, .ref o)] → mm_H D o ad cs s.heap st H locs → W p l e (mm_R 1 21) s m args below meth c H locs 0 0 (MQ below (mm_Qv D o ad cs st') args s 0 0 (mm_A o ad)) (F0 m 0 ls []) := by
  induction n with
  | zero => exact fun _ hf => fc_no hf
  | succ n ih =>
    intro st hf H locs ls hl hM
    exact w_whole_b0F C fu (fun st => M_whole_b0 fu n st) (fun st H locs ls hf hl hM => ih st hf H locs ls hl hM) st hf hl hM
theorem w_whole {p : Program} {l : Launch} {e : Env} {s : State} {m : MethodId} {args : Array Value} {below : List Frame} {meth : Method} {c : Code} {D : va_G} {o : Nat} {ad : Nat → Nat} {cs : ClassId × ClassId × ClassId} {st' : mm_S} (C : mm_C p s m args meth c cX12_whole 1 (none) D cs) (fu : Nat) (st : mm_S) (hf : M_whole fu st = some st') {H : Heap} {locs : List Loc} {ls : Array Slot} (hl : lv_has ls 1 [(0, .ref o)]) (hM : mm_H D o ad cs s.heap st H locs) : W p l e (mm_R 1 21) s m args below meth c H locs 0 0 (MQ below (mm_Qv D o ad cs st') args s 0 0 (mm_A o ad)) (F0 m 0 ls []) := by
  unfold M_whole at hf
  exact w_whole_b0 C fu fu st hf _ _ _ (lv_sub hl [0] rfl) hM
theorem c_whole (l : Launch) (D : va_G) (o : Nat) (ad : Nat → Nat) (cs : ClassId × ClassId × ClassId) (fu : Nat) (st : mm_S) : mm_Mv l D o ad cs yX12_whole cX12_whole 1 (none) 1 21 [] st (M_whole fu st) := by
  intro st' hf
  refine mm_enter (cc := cX12_whole) (nL := 1) (ret := none) (by decide) rfl (Nat.le_of_ble_eq_true rfl) ?_
  intro p e s m args below meth c ls C hl hM
  exact w_whole C fu st hf hl hM

/-! settle -/
def tb_settle : List (Nat × Instr × Nat) := [(0, .aload_n 0, 1), (1, .getfield 77, 3), (4, .ifCond .le 68, 3), (7, .aload_n 0, 1), (8, .getfield 71, 3), (11, .aload_n 0, 1), (12, .getfield 77, 3), (15, .iconst 1, 1), (16, .isub, 1), (17, .iaload, 1), (18, .bipush 38, 2), (20, .if_icmp .eq 25, 3), (23, .aload_n 0, 1), (24, .getfield 71, 3), (27, .aload_n 0, 1), (28, .getfield 77, 3), (31, .iconst 1, 1), (32, .isub, 1), (33, .iaload, 1), (34, .bipush 124, 2), (36, .if_icmp .ne 36, 3), (39, .iload_n 1, 1), (40, .bipush 38, 2), (42, .if_icmp .eq 30, 3), (45, .aload_n 0, 1), (46, .dup, 1), (47, .getfield 77, 3), (50, .iconst 1, 1), (51, .isub, 1), (52, .putfield 77, 3), (55, .aload_n 0, 1), (56, .aload_n 0, 1), (57, .getfield 71, 3), (60, .aload_n 0, 1), (61, .getfield 77, 3), (64, .iaload, 1), (65, .ineg, 1), (66, .invokevirtual 229, 3), (69, .goto (-69), 3), (72, .return_, 1)]
theorem td_settle : tb_settle.all (fun q => decide (decode cX12_settle q.1 = .ok (q.2.1, q.2.2))) = true := by decide +kernel
theorem hd_settle : yX12_settle.cls = RX12 ∧ yX12_settle.cls ≠ "java/lang/invoke/MethodHandle" ∧ yX12_settle.cls ≠ "java/lang/invoke/VarHandle" ∧ (parseMethodDescriptor yX12_settle.desc).map (fun d => d.parameters.length) = some 1 := by decide +kernel
theorem w_settle_b45 {p : Program} {l : Launch} {e : Env} {s : State} {m : MethodId} {args : Array Value} {below : List Frame} {meth : Method} {c : Code} {D : va_G} {o : Nat} {ad : Nat → Nat} {cs : ClassId × ClassId × ClassId} {st' : mm_S} (C : mm_C p s m args meth c cX12_settle 2 (none) D cs) (fu : Nat) (K0 : Int32 → mm_S → Option mm_S) (hK0 : ∀ (x1 : Int32) (st : mm_S) (H : Heap) (locs : List Loc) (ls : Array Slot), K0 x1 st = some st' → lv_has ls 2 [(0, .ref o), (1, .int x1)] → mm_H D o ad cs s.heap st H locs → W p l e (mm_R 1 21) s m args below meth c H locs 0 0 (MQ below (mm_Qv D o ad cs st') args s 0 0 (mm_A o ad)) (F0 m 0 ls [])) (x1 : Int32) (st : mm_S) (hf : M_settle_b45 fu K0 x1 st = some st') {H : Heap} {locs : List Loc} {ls : Array Slot} (hl : lv_has ls 2 [(0, .ref o), (1, .int x1)]) (hM : mm_H D o ad cs s.heap st H locs) : W p l e (mm_R 1 21) s m args below meth c H locs 0 0 (MQ below (mm_Qv D o ad cs st') args s 0 0 (mm_A o ad)) (F0 m 45 ls []) := by
  unfold M_settle_b45 at hf
  refine lv_aload_n C.1 C.2.1 (dd_at td_settle 24 rfl) rfl (lv_at hl 0 rfl) ?_
  refine lv_dup C.1 C.2.1 (dd_at td_settle 25 rfl) rfl ?_
  refine mm_gI C hM 22 (dd_at td_settle 26 rfl) (by decide) (by decide) (by decide) ?_
  refine lv_iconst (v := (1 : Int32)) C.1 C.2.1 (dd_at td_settle 27 rfl) (by decide) ?_
  refine lv_isub C.1 C.2.1 (dd_at td_settle 28 rfl) ?_
  refine mm_pI C hM 22 (dd_at td_settle 29 rfl) (by decide) (by decide) (by decide) rfl rfl (fun st7 H locs est7 hM => ?_)
  replace hf := fc_of_nm hf st7 est7
  refine lv_aload_n C.1 C.2.1 (dd_at td_settle 30 rfl) rfl (lv_at hl 0 rfl) ?_
  refine lv_aload_n C.1 C.2.1 (dd_at td_settle 31 rfl) rfl (lv_at hl 0 rfl) ?_
  refine mm_gA C hM 20 (dd_at td_settle 32 rfl) (by decide) (by decide) (by decide) ?_
  refine lv_aload_n C.1 C.2.1 (dd_at td_settle 33 rfl) rfl (lv_at hl 0 rfl) ?_
  refine mm_gI C hM 22 (dd_at td_settle 34 rfl) (by decide) (by decide) (by decide) ?_
  obtain ⟨g8, hf⟩ := fc_of_gd hf
  refine mm_iald C hM 20 (dd_at td_settle 35 rfl) (by decide) (by decide) (fc_of_ix g8) ?_
  refine lv_ineg C.1 C.2.1 (dd_at td_settle 36 rfl) ?_
  obtain ⟨st9, hx10, hf⟩ := fc_of_bv hf
  refine mm_cv (As := [.int (-(mm_G st7 20 (mm_I st7 22).toNatClampNeg))]) (rest := []) (n := 1) C hM (c_emits l D o ad cs fu (-(mm_G st7 20 (mm_I st7 22).toNatClampNeg)) st7) (List.mem_of_getElem? (i := 8) rfl) (dd_at td_settle 37 rfl) hx10 hl.1 hd_emits ⟨Nat.le_of_ble_eq_true rfl, Nat.le_of_ble_eq_true rfl⟩ rfl rfl (Nat.le_of_ble_eq_true rfl) ⟨Nat.le_refl 0, Nat.le_refl 0⟩ (fun H locs hM => ?_)
  refine lv_goto (tgt := 0) C.1 C.2.1 (dd_at td_settle 38 rfl) (by decide) ?_
  exact hK0 x1 st9 _ _ _ hf (lv_sub hl [0, 1] rfl) hM
theorem w_settle_b0F {p : Program} {l : Launch} {e : Env} {s : State} {m : MethodId} {args : Array Value} {below : List Frame} {meth : Method} {c : Code} {D : va_G} {o : Nat} {ad : Nat → Nat} {cs : ClassId × ClassId × ClassId} {st' : mm_S} (C : mm_C p s m args meth c cX12_settle 2 (none) D cs) (fu : Nat) (K0 : Int32 → mm_S → Option mm_S) (hK0 : ∀ (x1 : Int32) (st : mm_S) (H : Heap) (locs : List Loc) (ls : Array Slot), K0 x1 st = some st' → lv_has ls 2 [(0, .ref o), (1, .int x1)] → mm_H D o ad cs s.heap st H locs → W p l e (mm_R 1 21) s m args below meth c H locs 0 0 (MQ below (mm_Qv D o ad cs st') args s 0 0 (mm_A o ad)) (F0 m 0 ls [])) (x1 : Int32) (st : mm_S) (hf : M_settle_b0F fu K0 x1 st = some st') {H : Heap} {locs : List Loc} {ls : Array Slot} (hl : lv_has ls 2 [(0, .ref o), (1, .int x1)]) (hM : mm_H D o ad cs s.heap st H locs) : W p l e (mm_R 1 21) s m args below meth c H locs 0 0 (MQ below (mm_Qv D o ad cs st') args s 0 0 (mm_A o ad)) (F0 m 0 ls []) := by
  unfold M_settle_b0F at hf
  refine lv_aload_n C.1 C.2.1 (dd_at td_settle 0 rfl) rfl (lv_at hl 0 rfl) ?_
  refine mm_gI C hM 22 (dd_at td_settle 1 rfl) (by decide) (by decide) (by decide) ?_
  refine lv_if_le (tgt := 72) C.1 C.2.1 (dd_at td_settle 2 rfl) (by decide) (fun c1 => ?_) (fun c1 => ?_)
  · replace hf := fc_of_t hf c1
    exact mm_rv C hM (dd_at td_settle 39 rfl) hf
  · replace hf := fc_of_f hf c1
    refine lv_aload_n C.1 C.2.1 (dd_at td_settle 3 rfl) rfl (lv_at hl 0 rfl) ?_
    refine mm_gA C hM 20 (dd_at td_settle 4 rfl) (by decide) (by decide) (by decide) ?_
    refine lv_aload_n C.1 C.2.1 (dd_at td_settle 5 rfl) rfl (lv_at hl 0 rfl) ?_
    refine mm_gI C hM 22 (dd_at td_settle 6 rfl) (by decide) (by decide) (by decide) ?_
    refine lv_iconst (v := (1 : Int32)) C.1 C.2.1 (dd_at td_settle 7 rfl) (by decide) ?_
    refine lv_isub C.1 C.2.1 (dd_at td_settle 8 rfl) ?_
    obtain ⟨g2, hf⟩ := fc_of_gd hf
    refine mm_iald C hM 20 (dd_at td_settle 9 rfl) (by decide) (by decide) (fc_of_ix g2) ?_
    refine lv_bipush (v := (38 : Int32)) C.1 C.2.1 (dd_at td_settle 10 rfl) (by decide) ?_
    refine lv_icmp_eq (tgt := 45) C.1 C.2.1 (dd_at td_settle 11 rfl) (by decide) (fun c3 => ?_) (fun c3 => ?_)
    · replace hf := fc_of_t hf c3
      exact w_settle_b45 C fu K0 hK0 x1 st hf (lv_sub hl [0, 1] rfl) hM
    · replace hf := fc_of_f hf c3
      refine lv_aload_n C.1 C.2.1 (dd_at td_settle 12 rfl) rfl (lv_at hl 0 rfl) ?_
      refine mm_gA C hM 20 (dd_at td_settle 13 rfl) (by decide) (by decide) (by decide) ?_
      refine lv_aload_n C.1 C.2.1 (dd_at td_settle 14 rfl) rfl (lv_at hl 0 rfl) ?_
      refine mm_gI C hM 22 (dd_at td_settle 15 rfl) (by decide) (by decide) (by decide) ?_
      refine lv_iconst (v := (1 : Int32)) C.1 C.2.1 (dd_at td_settle 16 rfl) (by decide) ?_
      refine lv_isub C.1 C.2.1 (dd_at td_settle 17 rfl) ?_
      obtain ⟨g4, hf⟩ := fc_of_gd hf
      refine mm_iald C hM 20 (dd_at td_settle 18 rfl) (by decide) (by decide) (fc_of_ix g4) ?_
      refine lv_bipush (v := (124 : Int32)) C.1 C.2.1 (dd_at td_settle 19 rfl) (by decide) ?_
      refine lv_icmp_ne (tgt := 72) C.1 C.2.1 (dd_at td_settle 20 rfl) (by decide) (fun c5 => ?_) (fun c5 => ?_)
      · replace hf := fc_of_f hf c5
        exact mm_rv C hM (dd_at td_settle 39 rfl) hf
      · replace hf := fc_of_t hf c5
        refine lv_iload_n C.1 C.2.1 (dd_at td_settle 21 rfl) rfl (lv_at hl 1 rfl) ?_
        refine lv_bipush (v := (38 : Int32)) C.1 C.2.1 (dd_at td_settle 22 rfl) (by decide) ?_
        refine lv_icmp_eq (tgt := 72) C.1 C.2.1 (dd_at td_settle 23 rfl) (by decide) (fun c6 => ?_) (fun c6 => ?_)
        · replace hf := fc_of_t hf c6
          exact mm_rv C hM (dd_at td_settle 39 rfl) hf
        · replace hf := fc_of_f hf c6
          exact w_settle_b45 C fu K0 hK0 x1 st hf (lv_sub hl [0, 1] rfl) hM
theorem w_settle_b0 {p : Program} {l : Launch} {e : Env} {s : State} {m : MethodId} {args : Array Value} {below : List Frame} {meth : Method} {c : Code} {D : va_G} {o : Nat} {ad : Nat → Nat} {cs : ClassId × ClassId × ClassId} {st' : mm_S} (C : mm_C p s m args meth c cX12_settle 2 (none) D cs) (fu : Nat) (n : Nat) : ∀ (x1 : Int32) (st : mm_S), M_settle_b0 fu n x1 st = some st' → ∀ (H : Heap) (locs : List Loc) (ls : Array Slot), lv_has ls 2 [(0, .ref o), (1, .int x1)] → mm_H D o ad cs s.heap st H locs → W p l e (mm_R 1 21) s m args below meth c H locs 0 0 (MQ below (mm_Qv D o ad cs st') args s 0 0 (mm_A o ad)) (F0 m 0 ls []) := by
  induction n with
  | zero => exact fun _ _ hf => fc_no hf
  | succ n ih =>
    intro x1 st hf H locs ls hl hM
    exact w_settle_b0F C fu (fun x1 st => M_settle_b0 fu n x1 st) (fun x1 st H locs ls hf hl hM => ih x1 st hf H locs ls hl hM) x1 st hf hl hM
theorem w_settle {p : Program} {l : Launch} {e : Env} {s : State} {m : MethodId} {args : Array Value} {below : List Frame} {meth : Method} {c : Code} {D : va_G} {o : Nat} {ad : Nat → Nat} {cs : ClassId × ClassId × ClassId} {st' : mm_S} (C : mm_C p s m args meth c cX12_settle 2 (none) D cs) (fu : Nat) (x1 : Int32) (st : mm_S) (hf : M_settle fu x1 st = some st') {H : Heap} {locs : List Loc} {ls : Array Slot} (hl : lv_has ls 2 [(0, .ref o), (1, .int x1)]) (hM : mm_H D o ad cs s.heap st H locs) : W p l e (mm_R 1 21) s m args below meth c H locs 0 0 (MQ below (mm_Qv D o ad cs st') args s 0 0 (mm_A o ad)) (F0 m 0 ls []) := by
  unfold M_settle at hf
  exact w_settle_b0 C fu fu x1 st hf _ _ _ (lv_sub hl [0, 1] rfl) hM
theorem c_settle (l : Launch) (D : va_G) (o : Nat) (ad : Nat → Nat) (cs : ClassId × ClassId × ClassId) (fu : Nat) (x1 : Int32) (st : mm_S) : mm_Mv l D o ad cs yX12_settle cX12_settle 2 (none) 1 21 [.int x1] st (M_settle fu x1 st) := by
  intro st' hf
  refine mm_enter (cc := cX12_settle) (nL := 2) (ret := none) (by decide) rfl (Nat.le_of_ble_eq_true rfl) ?_
  intro p e s m args below meth c ls C hl hM
  exact w_settle C fu x1 st hf hl hM

/-! place -/
def tb_place : List (Nat × Instr × Nat) := [(0, .iload_n 1, 1), (1, .lookupswitch 71 #[(99, 67), (100, 69), (105, 59), (107, 61), (118, 63), (121, 65)], 59), (60, .iconst 0, 1), (61, .ireturn, 1), (62, .iconst 1, 1), (63, .ireturn, 1), (64, .iconst 2, 1), (65, .ireturn, 1), (66, .iconst 3, 1), (67, .ireturn, 1), (68, .iconst 4, 1), (69, .ireturn, 1), (70, .iconst 5, 1), (71, .ireturn, 1), (72, .iconst (-1), 1), (73, .ireturn, 1)]
theorem td_place : tb_place.all (fun q => decide (decode cX12_place q.1 = .ok (q.2.1, q.2.2))) = true := by decide +kernel
theorem hd_place : yX12_place.cls = RX12 ∧ yX12_place.cls ≠ "java/lang/invoke/MethodHandle" ∧ yX12_place.cls ≠ "java/lang/invoke/VarHandle" ∧ (parseMethodDescriptor yX12_place.desc).map (fun d => d.parameters.length) = some 1 := by decide +kernel
theorem w_place {p : Program} {l : Launch} {e : Env} {s : State} {m : MethodId} {args : Array Value} {below : List Frame} {meth : Method} {c : Code} {D : va_G} {o : Nat} {ad : Nat → Nat} {cs : ClassId × ClassId × ClassId} {r : Int32} {st' : mm_S} (C : mm_C p s m args meth c cX12_place 2 (some .int) D cs) (fu : Nat) (x1 : Int32) (st : mm_S) (hf : M_place fu x1 st = some (r, st')) {H : Heap} {locs : List Loc} {ls : Array Slot} (hl : lv_has ls 2 [(0, .ref o), (1, .int x1)]) (hM : mm_H D o ad cs s.heap st H locs) : W p l e (mm_R 0 0) s m args below meth c H locs 0 0 (MQ below (mm_Qi D o ad cs r st') args s 0 0 (mm_A o ad)) (F0 m 0 ls []) := by
  unfold M_place at hf
  refine lv_iload_n C.1 C.2.1 (dd_at td_place 0 rfl) rfl (lv_at hl 1 rfl) ?_
  by_cases c1 : x1 = (99 : Int32)
  · replace hf := fc_of_t hf c1
    refine lv_lookup (off := 67) (tgt := 68) C.1 C.2.1 (dd_at td_place 1 rfl) (by decide) (by rw [c1]; decide) (by decide) ?_
    refine lv_iconst (v := (4 : Int32)) C.1 C.2.1 (dd_at td_place 10 rfl) (by decide) ?_
    exact mm_ri C hM (dd_at td_place 11 rfl) hf
  · replace hf := fc_of_f hf c1
    by_cases c2 : x1 = (100 : Int32)
    · replace hf := fc_of_t hf c2
      refine lv_lookup (off := 69) (tgt := 70) C.1 C.2.1 (dd_at td_place 1 rfl) (by decide) (by rw [c2]; decide) (by decide) ?_
      refine lv_iconst (v := (5 : Int32)) C.1 C.2.1 (dd_at td_place 12 rfl) (by decide) ?_
      exact mm_ri C hM (dd_at td_place 13 rfl) hf
    · replace hf := fc_of_f hf c2
      by_cases c3 : x1 = (105 : Int32)
      · replace hf := fc_of_t hf c3
        refine lv_lookup (off := 59) (tgt := 60) C.1 C.2.1 (dd_at td_place 1 rfl) (by decide) (by rw [c3]; decide) (by decide) ?_
        refine lv_iconst (v := (0 : Int32)) C.1 C.2.1 (dd_at td_place 2 rfl) (by decide) ?_
        exact mm_ri C hM (dd_at td_place 3 rfl) hf
      · replace hf := fc_of_f hf c3
        by_cases c4 : x1 = (107 : Int32)
        · replace hf := fc_of_t hf c4
          refine lv_lookup (off := 61) (tgt := 62) C.1 C.2.1 (dd_at td_place 1 rfl) (by decide) (by rw [c4]; decide) (by decide) ?_
          refine lv_iconst (v := (1 : Int32)) C.1 C.2.1 (dd_at td_place 4 rfl) (by decide) ?_
          exact mm_ri C hM (dd_at td_place 5 rfl) hf
        · replace hf := fc_of_f hf c4
          by_cases c5 : x1 = (118 : Int32)
          · replace hf := fc_of_t hf c5
            refine lv_lookup (off := 63) (tgt := 64) C.1 C.2.1 (dd_at td_place 1 rfl) (by decide) (by rw [c5]; decide) (by decide) ?_
            refine lv_iconst (v := (2 : Int32)) C.1 C.2.1 (dd_at td_place 6 rfl) (by decide) ?_
            exact mm_ri C hM (dd_at td_place 7 rfl) hf
          · replace hf := fc_of_f hf c5
            by_cases c6 : x1 = (121 : Int32)
            · replace hf := fc_of_t hf c6
              refine lv_lookup (off := 65) (tgt := 66) C.1 C.2.1 (dd_at td_place 1 rfl) (by decide) (by rw [c6]; decide) (by decide) ?_
              refine lv_iconst (v := (3 : Int32)) C.1 C.2.1 (dd_at td_place 8 rfl) (by decide) ?_
              exact mm_ri C hM (dd_at td_place 9 rfl) hf
            · replace hf := fc_of_f hf c6
              refine lv_lookup (off := 71) (tgt := 72) C.1 C.2.1 (dd_at td_place 1 rfl) (by decide) (by show Op.lookupswitch.offset [(99, 67), (100, 69), (105, 59), (107, 61), (118, 63), (121, 65)] 71 _ = _; rw [lv_osw c1 (by decide), lv_osw c2 (by decide), lv_osw c3 (by decide), lv_osw c4 (by decide), lv_osw c5 (by decide), lv_osw c6 (by decide)]; rfl) (by decide) ?_
              refine lv_iconst (v := (-1 : Int32)) C.1 C.2.1 (dd_at td_place 14 rfl) (by decide) ?_
              exact mm_ri C hM (dd_at td_place 15 rfl) hf
theorem c_place (l : Launch) (D : va_G) (o : Nat) (ad : Nat → Nat) (cs : ClassId × ClassId × ClassId) (fu : Nat) (x1 : Int32) (st : mm_S) : mm_Mi l D o ad cs yX12_place cX12_place 2 (some .int) 0 0 [.int x1] st (M_place fu x1 st) := by
  intro r st' hf
  refine mm_enter (cc := cX12_place) (nL := 2) (ret := some .int) (by decide) rfl (Nat.le_of_ble_eq_true rfl) ?_
  intro p e s m args below meth c ls C hl hM
  exact w_place C fu x1 st hf hl hM

/-! takesTest -/
def tb_takesTest : List (Nat × Instr × Nat) := [(0, .aload_n 0, 1), (1, .aload_n 0, 1), (2, .invokevirtual 218, 3), (5, .invokevirtual 233, 3), (8, .istore_n 1, 1), (9, .iload_n 1, 1), (10, .ifCond .ge 5, 3), (13, .iconst 0, 1), (14, .ireturn, 1), (15, .aload_n 0, 1), (16, .dup, 1), (17, .getfield 44, 3), (20, .iconst 1, 1), (21, .iadd, 1), (22, .putfield 44, 3), (25, .aload_n 0, 1), (26, .invokevirtual 218, 3), (29, .istore_n 2, 1), (30, .aload_n 0, 1), (31, .iload_n 2, 1), (32, .bipush 60, 2), (34, .bipush 62, 2), (36, .invokevirtual 207, 3), (39, .ifCond .ne 5, 3), (42, .iconst 0, 1), (43, .ireturn, 1), (44, .aload_n 0, 1), (45, .dup, 1), (46, .getfield 44, 3), (49, .iconst 1, 1), (50, .iadd, 1), (51, .putfield 44, 3), (54, .aload_n 0, 1), (55, .invokevirtual 237, 3), (58, .ifCond .ne 5, 3), (61, .iconst 0, 1), (62, .ireturn, 1), (63, .aload_n 0, 1), (64, .sipush 1000, 3), (67, .iload_n 1, 1), (68, .imul, 1), (69, .bipush 100, 2), (71, .iload_n 2, 1), (72, .bipush 60, 2), (74, .isub, 1), (75, .imul, 1), (76, .iadd, 1), (77, .aload_n 0, 1), (78, .getfield 47, 3), (81, .iadd, 1), (82, .invokevirtual 229, 3), (85, .aload_n 0, 1), (86, .invokevirtual 240, 3), (89, .iconst 1, 1), (90, .ireturn, 1)]
theorem td_takesTest : tb_takesTest.all (fun q => decide (decode cX12_takesTest q.1 = .ok (q.2.1, q.2.2))) = true := by decide +kernel
theorem hd_takesTest : yX12_takesTest.cls = RX12 ∧ yX12_takesTest.cls ≠ "java/lang/invoke/MethodHandle" ∧ yX12_takesTest.cls ≠ "java/lang/invoke/VarHandle" ∧ (parseMethodDescriptor yX12_takesTest.desc).map (fun d => d.parameters.length) = some 0 := by decide +kernel
theorem w_takesTest {p : Program} {l : Launch} {e : Env} {s : State} {m : MethodId} {args : Array Value} {below : List Frame} {meth : Method} {c : Code} {D : va_G} {o : Nat} {ad : Nat → Nat} {cs : ClassId × ClassId × ClassId} {r : Int32} {st' : mm_S} (C : mm_C p s m args meth c cX12_takesTest 3 (some .boolean) D cs) (fu : Nat) (st : mm_S) (hf : M_takesTest fu st = some (r, st')) {H : Heap} {locs : List Loc} {ls : Array Slot} (hl : lv_has ls 3 [(0, .ref o)]) (hM : mm_H D o ad cs s.heap st H locs) : W p l e (mm_R 3 64) s m args below meth c H locs 0 0 (MQ below (mm_Qi D o ad cs r st') args s 0 0 (mm_A o ad)) (F0 m 0 ls []) := by
  unfold M_takesTest at hf
  refine lv_aload_n C.1 C.2.1 (dd_at td_takesTest 0 rfl) rfl (lv_at hl 0 rfl) ?_
  refine lv_aload_n C.1 C.2.1 (dd_at td_takesTest 1 rfl) rfl (lv_at hl 0 rfl) ?_
  obtain ⟨r3, st1, hx2, hf⟩ := fc_of_bn hf
  refine mm_ci (As := []) (rest := [.ref o]) (n := 0) C hM (c_next l D o ad cs fu st) (List.mem_of_getElem? (i := 33) rfl) (dd_at td_takesTest 2 rfl) hx2 hl.1 hd_next ⟨Nat.le_of_ble_eq_true rfl, Nat.le_of_ble_eq_true rfl⟩ rfl rfl (Nat.le_of_ble_eq_true rfl) ⟨Nat.le_refl 0, Nat.le_refl 0⟩ (fun H locs hM => ?_)
  obtain ⟨r6, st4, hx5, hf⟩ := fc_of_bn hf
  refine mm_ci (As := [.int r3]) (rest := []) (n := 1) C hM (c_place l D o ad cs fu r3 st1) (List.mem_of_getElem? (i := 34) rfl) (dd_at td_takesTest 3 rfl) hx5 hl.1 hd_place ⟨Nat.le_of_ble_eq_true rfl, Nat.le_of_ble_eq_true rfl⟩ rfl rfl (Nat.le_of_ble_eq_true rfl) ⟨Nat.le_refl 0, Nat.le_refl 0⟩ (fun H locs hM => ?_)
  refine lv_istore_n (lv' := [(1, .int r6), (0, .ref o)]) C.1 C.2.1 (dd_at td_takesTest 4 rfl) rfl hl (by decide) rfl (fun ls hl => ?_)
  refine lv_iload_n C.1 C.2.1 (dd_at td_takesTest 5 rfl) rfl (lv_at hl 0 rfl) ?_
  refine lv_if_ge (tgt := 15) C.1 C.2.1 (dd_at td_takesTest 6 rfl) (by decide) (fun c7 => ?_) (fun c7 => ?_)
  · replace hf := fc_of_t hf c7
    refine lv_aload_n C.1 C.2.1 (dd_at td_takesTest 9 rfl) rfl (lv_at hl 1 rfl) ?_
    refine lv_dup C.1 C.2.1 (dd_at td_takesTest 10 rfl) rfl ?_
    refine mm_gI C hM 11 (dd_at td_takesTest 11 rfl) (by decide) (by decide) (by decide) ?_
    refine lv_iconst (v := (1 : Int32)) C.1 C.2.1 (dd_at td_takesTest 12 rfl) (by decide) ?_
    refine lv_iadd C.1 C.2.1 (dd_at td_takesTest 13 rfl) ?_
    refine mm_pI C hM 11 (dd_at td_takesTest 14 rfl) (by decide) (by decide) (by decide) rfl rfl (fun st8 H locs est8 hM => ?_)
    replace hf := fc_of_nm hf st8 est8
    refine lv_aload_n C.1 C.2.1 (dd_at td_takesTest 15 rfl) rfl (lv_at hl 1 rfl) ?_
    obtain ⟨r11, st9, hx10, hf⟩ := fc_of_bn hf
    refine mm_ci (As := []) (rest := []) (n := 0) C hM (c_next l D o ad cs fu st8) (List.mem_of_getElem? (i := 33) rfl) (dd_at td_takesTest 16 rfl) hx10 hl.1 hd_next ⟨Nat.le_of_ble_eq_true rfl, Nat.le_of_ble_eq_true rfl⟩ rfl rfl (Nat.le_of_ble_eq_true rfl) ⟨Nat.le_refl 0, Nat.le_refl 0⟩ (fun H locs hM => ?_)
    refine lv_istore_n (lv' := [(2, .int r11), (1, .int r6), (0, .ref o)]) C.1 C.2.1 (dd_at td_takesTest 17 rfl) rfl hl (by decide) rfl (fun ls hl => ?_)
    refine lv_aload_n C.1 C.2.1 (dd_at td_takesTest 18 rfl) rfl (lv_at hl 2 rfl) ?_
    refine lv_iload_n C.1 C.2.1 (dd_at td_takesTest 19 rfl) rfl (lv_at hl 0 rfl) ?_
    refine lv_bipush (v := (60 : Int32)) C.1 C.2.1 (dd_at td_takesTest 20 rfl) (by decide) ?_
    refine lv_bipush (v := (62 : Int32)) C.1 C.2.1 (dd_at td_takesTest 21 rfl) (by decide) ?_
    obtain ⟨r14, st12, hx13, hf⟩ := fc_of_bn hf
    refine mm_ci (As := [.int r11, .int (60 : Int32), .int (62 : Int32)]) (rest := []) (n := 3) C hM (c_in l D o ad cs fu r11 (60 : Int32) (62 : Int32) st9) (List.mem_of_getElem? (i := 18) rfl) (dd_at td_takesTest 22 rfl) hx13 hl.1 hd_in ⟨Nat.le_of_ble_eq_true rfl, Nat.le_of_ble_eq_true rfl⟩ rfl rfl (Nat.le_of_ble_eq_true rfl) ⟨Nat.le_refl 0, Nat.le_refl 0⟩ (fun H locs hM => ?_)
    refine lv_if_ne (tgt := 44) C.1 C.2.1 (dd_at td_takesTest 23 rfl) (by decide) (fun c15 => ?_) (fun c15 => ?_)
    · replace hf := fc_of_f hf c15
      refine lv_aload_n C.1 C.2.1 (dd_at td_takesTest 26 rfl) rfl (lv_at hl 2 rfl) ?_
      refine lv_dup C.1 C.2.1 (dd_at td_takesTest 27 rfl) rfl ?_
      refine mm_gI C hM 11 (dd_at td_takesTest 28 rfl) (by decide) (by decide) (by decide) ?_
      refine lv_iconst (v := (1 : Int32)) C.1 C.2.1 (dd_at td_takesTest 29 rfl) (by decide) ?_
      refine lv_iadd C.1 C.2.1 (dd_at td_takesTest 30 rfl) ?_
      refine mm_pI C hM 11 (dd_at td_takesTest 31 rfl) (by decide) (by decide) (by decide) rfl rfl (fun st16 H locs est16 hM => ?_)
      replace hf := fc_of_nm hf st16 est16
      refine lv_aload_n C.1 C.2.1 (dd_at td_takesTest 32 rfl) rfl (lv_at hl 2 rfl) ?_
      obtain ⟨r19, st17, hx18, hf⟩ := fc_of_bn hf
      refine mm_ci (As := []) (rest := []) (n := 0) C hM (c_takesNumber l D o ad cs fu st16) (List.mem_of_getElem? (i := 42) rfl) (dd_at td_takesTest 33 rfl) hx18 hl.1 hd_takesNumber ⟨Nat.le_of_ble_eq_true rfl, Nat.le_of_ble_eq_true rfl⟩ rfl rfl (Nat.le_of_ble_eq_true rfl) ⟨Nat.le_refl 0, Nat.le_refl 0⟩ (fun H locs hM => ?_)
      refine lv_if_ne (tgt := 63) C.1 C.2.1 (dd_at td_takesTest 34 rfl) (by decide) (fun c20 => ?_) (fun c20 => ?_)
      · replace hf := fc_of_f hf c20
        refine lv_aload_n C.1 C.2.1 (dd_at td_takesTest 37 rfl) rfl (lv_at hl 2 rfl) ?_
        refine lv_sipush (v := (1000 : Int32)) C.1 C.2.1 (dd_at td_takesTest 38 rfl) (by decide) ?_
        refine lv_iload_n C.1 C.2.1 (dd_at td_takesTest 39 rfl) rfl (lv_at hl 1 rfl) ?_
        refine lv_imul C.1 C.2.1 (dd_at td_takesTest 40 rfl) ?_
        refine lv_bipush (v := (100 : Int32)) C.1 C.2.1 (dd_at td_takesTest 41 rfl) (by decide) ?_
        refine lv_iload_n C.1 C.2.1 (dd_at td_takesTest 42 rfl) rfl (lv_at hl 0 rfl) ?_
        refine lv_bipush (v := (60 : Int32)) C.1 C.2.1 (dd_at td_takesTest 43 rfl) (by decide) ?_
        refine lv_isub C.1 C.2.1 (dd_at td_takesTest 44 rfl) ?_
        refine lv_imul C.1 C.2.1 (dd_at td_takesTest 45 rfl) ?_
        refine lv_iadd C.1 C.2.1 (dd_at td_takesTest 46 rfl) ?_
        refine lv_aload_n C.1 C.2.1 (dd_at td_takesTest 47 rfl) rfl (lv_at hl 2 rfl) ?_
        refine mm_gI C hM 12 (dd_at td_takesTest 48 rfl) (by decide) (by decide) (by decide) ?_
        refine lv_iadd C.1 C.2.1 (dd_at td_takesTest 49 rfl) ?_
        obtain ⟨st21, hx22, hf⟩ := fc_of_bv hf
        refine mm_cv (As := [.int ((((1000 : Int32) * r6) + ((100 : Int32) * (r11 - (60 : Int32)))) + (mm_I st17 12))]) (rest := []) (n := 1) C hM (c_emits l D o ad cs fu ((((1000 : Int32) * r6) + ((100 : Int32) * (r11 - (60 : Int32)))) + (mm_I st17 12)) st17) (List.mem_of_getElem? (i := 8) rfl) (dd_at td_takesTest 50 rfl) hx22 hl.1 hd_emits ⟨Nat.le_of_ble_eq_true rfl, Nat.le_of_ble_eq_true rfl⟩ rfl rfl (Nat.le_of_ble_eq_true rfl) ⟨Nat.le_refl 0, Nat.le_refl 0⟩ (fun H locs hM => ?_)
        refine lv_aload_n C.1 C.2.1 (dd_at td_takesTest 51 rfl) rfl (lv_at hl 2 rfl) ?_
        obtain ⟨st23, hx24, hf⟩ := fc_of_bv hf
        refine mm_cv (As := []) (rest := []) (n := 0) C hM (c_whole l D o ad cs fu st21) (List.mem_of_getElem? (i := 47) rfl) (dd_at td_takesTest 52 rfl) hx24 hl.1 hd_whole ⟨Nat.le_of_ble_eq_true rfl, Nat.le_of_ble_eq_true rfl⟩ rfl rfl (Nat.le_of_ble_eq_true rfl) ⟨Nat.le_refl 0, Nat.le_refl 0⟩ (fun H locs hM => ?_)
        refine lv_iconst (v := (1 : Int32)) C.1 C.2.1 (dd_at td_takesTest 53 rfl) (by decide) ?_
        exact mm_rz C hM (dd_at td_takesTest 54 rfl) rfl hf
      · replace hf := fc_of_t hf c20
        refine lv_iconst (v := (0 : Int32)) C.1 C.2.1 (dd_at td_takesTest 35 rfl) (by decide) ?_
        exact mm_rz C hM (dd_at td_takesTest 36 rfl) rfl hf
    · replace hf := fc_of_t hf c15
      refine lv_iconst (v := (0 : Int32)) C.1 C.2.1 (dd_at td_takesTest 24 rfl) (by decide) ?_
      exact mm_rz C hM (dd_at td_takesTest 25 rfl) rfl hf
  · replace hf := fc_of_f hf c7
    refine lv_iconst (v := (0 : Int32)) C.1 C.2.1 (dd_at td_takesTest 7 rfl) (by decide) ?_
    exact mm_rz C hM (dd_at td_takesTest 8 rfl) rfl hf
theorem c_takesTest (l : Launch) (D : va_G) (o : Nat) (ad : Nat → Nat) (cs : ClassId × ClassId × ClassId) (fu : Nat) (st : mm_S) : mm_Mi l D o ad cs yX12_takesTest cX12_takesTest 3 (some .boolean) 3 64 [] st (M_takesTest fu st) := by
  intro r st' hf
  refine mm_enter (cc := cX12_takesTest) (nL := 3) (ret := some .boolean) (by decide) rfl (Nat.le_of_ble_eq_true rfl) ?_
  intro p e s m args below meth c ls C hl hM
  exact w_takesTest C fu st hf hl hM
end
