/-! the reference made -/
def mm_st0 : mm_S := (fun k => if k = 1 then 3 else if k = 9 then -1 else if k = 39 then -1 else 0, fun k => if k = 24 then (upd (upd (upd (upd (upd (upd (upd (upd (upd (upd (upd (upd (upd (fun _ => 0) (0 : Int32).toNatClampNeg (102 : Int32)) (1 : Int32).toNatClampNeg (97 : Int32)) (2 : Int32).toNatClampNeg (109 : Int32)) (3 : Int32).toNatClampNeg (101 : Int32)) (4 : Int32).toNatClampNeg (115 : Int32)) (5 : Int32).toNatClampNeg (104 : Int32)) (6 : Int32).toNatClampNeg (97 : Int32)) (7 : Int32).toNatClampNeg (109 : Int32)) (8 : Int32).toNatClampNeg (101 : Int32)) (9 : Int32).toNatClampNeg (107 : Int32)) (10 : Int32).toNatClampNeg (101 : Int32)) (11 : Int32).toNatClampNeg (101 : Int32)) (12 : Int32).toNatClampNeg (112 : Int32)) else if k = 59 then (upd (upd (upd (upd (upd (upd (fun _ => 0) (0 : Int32).toNatClampNeg (-1 : Int32)) (1 : Int32).toNatClampNeg (-1 : Int32)) (2 : Int32).toNatClampNeg (-1 : Int32)) (3 : Int32).toNatClampNeg (-1 : Int32)) (4 : Int32).toNatClampNeg (-1 : Int32)) (5 : Int32).toNatClampNeg (-1 : Int32)) else fun _ => 0, fun _ _ => 0)
def tb_X12_init : List (Nat × Instr × Nat) := [(0, .aload_n 0, 1), (1, .invokespecial 1, 3), (4, .aload_n 0, 1), (5, .iconst 0, 1), (6, .putfield 7, 3), (9, .aload_n 0, 1), (10, .iconst 3, 1), (11, .putfield 13, 3), (14, .aload_n 0, 1), (15, .iconst 0, 1), (16, .putfield 16, 3), (19, .aload_n 0, 1), (20, .iconst 0, 1), (21, .putfield 19, 3), (24, .aload_n 0, 1), (25, .bipush 6, 2), (27, .newarray .int, 2), (29, .putfield 22, 3), (32, .aload_n 0, 1), (33, .bipush 6, 2), (35, .newarray .int, 2), (37, .putfield 26, 3), (40, .aload_n 0, 1), (41, .bipush 6, 2), (43, .newarray .int, 2), (45, .putfield 29, 3), (48, .aload_n 0, 1), (49, .bipush 24, 2), (51, .newarray .int, 2), (53, .putfield 32, 3), (56, .aload_n 0, 1), (57, .iconst 0, 1), (58, .putfield 35, 3), (61, .aload_n 0, 1), (62, .iconst (-1), 1), (63, .putfield 38, 3), (66, .aload_n 0, 1), (67, .iconst 0, 1), (68, .putfield 41, 3), (71, .aload_n 0, 1), (72, .iconst 0, 1), (73, .putfield 44, 3), (76, .aload_n 0, 1), (77, .iconst 0, 1), (78, .putfield 47, 3), (81, .aload_n 0, 1), (82, .bipush 100, 2), (84, .newarray .int, 2), (86, .putfield 50, 3), (89, .aload_n 0, 1), (90, .bipush 6, 2), (92, .newarray .int, 2), (94, .putfield 53, 3), (97, .aload_n 0, 1), (98, .bipush 60, 2), (100, .newarray .int, 2), (102, .putfield 56, 3), (105, .aload_n 0, 1), (106, .bipush 60, 2), (108, .newarray .int, 2), (110, .putfield 59, 3), (113, .aload_n 0, 1), (114, .bipush 60, 2), (116, .newarray .int, 2), (118, .putfield 62, 3), (121, .aload_n 0, 1), (122, .bipush 60, 2), (124, .newarray .int, 2), (126, .putfield 65, 3), (129, .aload_n 0, 1), (130, .sipush 600, 3), (133, .newarray .int, 2), (135, .putfield 68, 3), (138, .aload_n 0, 1), (139, .bipush 101, 2), (141, .newarray .int, 2), (143, .putfield 71, 3), (146, .aload_n 0, 1), (147, .iconst 0, 1), (148, .putfield 74, 3), (151, .aload_n 0, 1), (152, .iconst 0, 1), (153, .putfield 77, 3), (156, .aload_n 0, 1), (157, .iconst 0, 1), (158, .putfield 80, 3), (161, .aload_n 0, 1), (162, .bipush 13, 2), (164, .newarray .int, 2), (166, .dup, 1), (167, .iconst 0, 1), (168, .bipush 102, 2), (170, .iastore, 1), (171, .dup, 1), (172, .iconst 1, 1), (173, .bipush 97, 2), (175, .iastore, 1), (176, .dup, 1), (177, .iconst 2, 1), (178, .bipush 109, 2), (180, .iastore, 1), (181, .dup, 1), (182, .iconst 3, 1), (183, .bipush 101, 2), (185, .iastore, 1), (186, .dup, 1), (187, .iconst 4, 1), (188, .bipush 115, 2), (190, .iastore, 1), (191, .dup, 1), (192, .iconst 5, 1), (193, .bipush 104, 2), (195, .iastore, 1), (196, .dup, 1), (197, .bipush 6, 2), (199, .bipush 97, 2), (201, .iastore, 1), (202, .dup, 1), (203, .bipush 7, 2), (205, .bipush 109, 2), (207, .iastore, 1), (208, .dup, 1), (209, .bipush 8, 2), (211, .bipush 101, 2), (213, .iastore, 1), (214, .dup, 1), (215, .bipush 9, 2), (217, .bipush 107, 2), (219, .iastore, 1), (220, .dup, 1), (221, .bipush 10, 2), (223, .bipush 101, 2), (225, .iastore, 1), (226, .dup, 1), (227, .bipush 11, 2), (229, .bipush 101, 2), (231, .iastore, 1), (232, .dup, 1), (233, .bipush 12, 2), (235, .bipush 112, 2), (237, .iastore, 1), (238, .putfield 83, 3), (241, .aload_n 0, 1), (242, .bipush 100, 2), (244, .newarray .boolean, 2), (246, .putfield 86, 3), (249, .aload_n 0, 1), (250, .bipush 90, 2), (252, .newarray .long, 2), (254, .putfield 90, 3), (257, .aload_n 0, 1), (258, .iconst 0, 1), (259, .putfield 94, 3), (262, .aload_n 0, 1), (263, .bipush 90, 2), (265, .newarray .long, 2), (267, .putfield 97, 3), (270, .aload_n 0, 1), (271, .iconst 0, 1), (272, .putfield 100, 3), (275, .aload_n 0, 1), (276, .bipush 8, 2), (278, .newarray .int, 2), (280, .putfield 103, 3), (283, .aload_n 0, 1), (284, .iconst 0, 1), (285, .putfield 106, 3), (288, .aload_n 0, 1), (289, .iconst 0, 1), (290, .putfield 109, 3), (293, .aload_n 0, 1), (294, .iconst 5, 1), (295, .newarray .int, 2), (297, .putfield 112, 3), (300, .aload_n 0, 1), (301, .iconst 5, 1), (302, .newarray .int, 2), (304, .putfield 115, 3), (307, .aload_n 0, 1), (308, .iconst 5, 1), (309, .newarray .int, 2), (311, .putfield 118, 3), (314, .aload_n 0, 1), (315, .bipush 8, 2), (317, .newarray .int, 2), (319, .putfield 121, 3), (322, .aload_n 0, 1), (323, .bipush 8, 2), (325, .newarray .int, 2), (327, .putfield 124, 3), (330, .aload_n 0, 1), (331, .iconst 0, 1), (332, .putfield 127, 3), (335, .aload_n 0, 1), (336, .iconst (-1), 1), (337, .putfield 131, 3), (340, .aload_n 0, 1), (341, .iconst 0, 1), (342, .putfield 134, 3), (345, .aload_n 0, 1), (346, .iconst 0, 1), (347, .putfield 137, 3), (350, .aload_n 0, 1), (351, .iconst 0, 1), (352, .putfield 140, 3), (355, .aload_n 0, 1), (356, .iconst 0, 1), (357, .putfield 143, 3), (360, .aload_n 0, 1), (361, .iconst 0, 1), (362, .putfield 146, 3), (365, .aload_n 0, 1), (366, .iconst 0, 1), (367, .putfield 149, 3), (370, .aload_n 0, 1), (371, .iconst 0, 1), (372, .putfield 152, 3), (375, .aload_n 0, 1), (376, .bipush 6, 2), (378, .newarray .int, 2), (380, .putfield 155, 3), (383, .aload_n 0, 1), (384, .bipush 6, 2), (386, .newarray .int, 2), (388, .putfield 158, 3), (391, .aload_n 0, 1), (392, .bipush 6, 2), (394, .newarray .int, 2), (396, .putfield 161, 3), (399, .aload_n 0, 1), (400, .bipush 24, 2), (402, .newarray .int, 2), (404, .putfield 164, 3), (407, .aload_n 0, 1), (408, .bipush 8, 2), (410, .newarray .int, 2), (412, .putfield 167, 3), (415, .aload_n 0, 1), (416, .iconst 5, 1), (417, .newarray .int, 2), (419, .putfield 170, 3), (422, .aload_n 0, 1), (423, .iconst 5, 1), (424, .newarray .int, 2), (426, .putfield 173, 3), (429, .aload_n 0, 1), (430, .iconst 5, 1), (431, .newarray .int, 2), (433, .putfield 176, 3), (436, .aload_n 0, 1), (437, .bipush 8, 2), (439, .newarray .int, 2), (441, .putfield 179, 3), (444, .aload_n 0, 1), (445, .bipush 8, 2), (447, .newarray .int, 2), (449, .putfield 182, 3), (452, .aload_n 0, 1), (453, .iconst 0, 1), (454, .putfield 185, 3), (457, .aload_n 0, 1), (458, .bipush 20, 2), (460, .newarray .int, 2), (462, .putfield 188, 3), (465, .aload_n 0, 1), (466, .bipush 6, 2), (468, .newarray .int, 2), (470, .dup, 1), (471, .iconst 0, 1), (472, .iconst (-1), 1), (473, .iastore, 1), (474, .dup, 1), (475, .iconst 1, 1), (476, .iconst (-1), 1), (477, .iastore, 1), (478, .dup, 1), (479, .iconst 2, 1), (480, .iconst (-1), 1), (481, .iastore, 1), (482, .dup, 1), (483, .iconst 3, 1), (484, .iconst (-1), 1), (485, .iastore, 1), (486, .dup, 1), (487, .iconst 4, 1), (488, .iconst (-1), 1), (489, .iastore, 1), (490, .dup, 1), (491, .iconst 5, 1), (492, .iconst (-1), 1), (493, .iastore, 1), (494, .putfield 191, 3), (497, .aload_n 0, 1), (498, .bipush 6, 2), (500, .newarray .int, 2), (502, .putfield 194, 3), (505, .aload_n 0, 1), (506, .sipush 360, 3), (509, .newarray .long, 2), (511, .putfield 197, 3), (514, .aload_n 0, 1), (515, .bipush 60, 2), (517, .newarray .long, 2), (519, .putfield 200, 3), (522, .return_, 1)]
theorem td_X12_init : tb_X12_init.all (fun q => decide (decode cX12_init q.1 = .ok (q.2.1, q.2.2))) = true := by decide +kernel
def nn_mw : List Cond := [Cond.methodLink RX12 1 objectInit, Cond.instanceMethod objectInit, Cond.code objectInit ⟨#[0xb1]⟩ 1 none, Cond.fieldLink RX12 7 "EclipsesKeptModel" "needs" "I", Cond.fieldLink RX12 13 "EclipsesKeptModel" "dark" "I", Cond.fieldLink RX12 16 "EclipsesKeptModel" "glory" "I", Cond.fieldLink RX12 19 "EclipsesKeptModel" "year" "I", Cond.arrayClass .int, Cond.fieldLink RX12 22 "EclipsesKeptModel" "kind" "[I", Cond.fieldLink RX12 26 "EclipsesKeptModel" "v" "[I", Cond.fieldLink RX12 29 "EclipsesKeptModel" "served" "[I", Cond.fieldLink RX12 32 "EclipsesKeptModel" "rows" "[I", Cond.fieldLink RX12 35 "EclipsesKeptModel" "archives" "I", Cond.fieldLink RX12 38 "EclipsesKeptModel" "the" "I", Cond.fieldLink RX12 41 "EclipsesKeptModel" "fed" "I", Cond.fieldLink RX12 44 "EclipsesKeptModel" "at" "I", Cond.fieldLink RX12 47 "EclipsesKeptModel" "digits" "I", Cond.fieldLink RX12 50 "EclipsesKeptModel" "text" "[I", Cond.fieldLink RX12 53 "EclipsesKeptModel" "clauses" "[I", Cond.fieldLink RX12 56 "EclipsesKeptModel" "word" "[I", Cond.fieldLink RX12 59 "EclipsesKeptModel" "number" "[I", Cond.fieldLink RX12 62 "EclipsesKeptModel" "from" "[I", Cond.fieldLink RX12 65 "EclipsesKeptModel" "to" "[I", Cond.fieldLink RX12 68 "EclipsesKeptModel" "sign" "[I", Cond.fieldLink RX12 71 "EclipsesKeptModel" "waits" "[I", Cond.fieldLink RX12 74 "EclipsesKeptModel" "signs" "I", Cond.fieldLink RX12 77 "EclipsesKeptModel" "waiting" "I", Cond.fieldLink RX12 80 "EclipsesKeptModel" "open" "I", Cond.fieldLink RX12 83 "EclipsesKeptModel" "letters" "[I", Cond.arrayClass .boolean, Cond.fieldLink RX12 86 "EclipsesKeptModel" "pile" "[Z", Cond.arrayClass .long, Cond.fieldLink RX12 90 "EclipsesKeptModel" "gain" "[J", Cond.fieldLink RX12 94 "EclipsesKeptModel" "chosenSet" "I", Cond.fieldLink RX12 97 "EclipsesKeptModel" "out" "[J", Cond.fieldLink RX12 100 "EclipsesKeptModel" "comes" "I", Cond.fieldLink RX12 103 "EclipsesKeptModel" "comesNeed" "[I", Cond.fieldLink RX12 106 "EclipsesKeptModel" "seen" "I", Cond.fieldLink RX12 109 "EclipsesKeptModel" "books" "I", Cond.fieldLink RX12 112 "EclipsesKeptModel" "seenNeed" "[I", Cond.fieldLink RX12 115 "EclipsesKeptModel" "seenWorth" "[I", Cond.fieldLink RX12 118 "EclipsesKeptModel" "seenWhen" "[I", Cond.fieldLink RX12 121 "EclipsesKeptModel" "bookNeed" "[I", Cond.fieldLink RX12 124 "EclipsesKeptModel" "bookServed" "[I", Cond.fieldLink RX12 127 "EclipsesKeptModel" "hasImage" "Z", Cond.fieldLink RX12 131 "EclipsesKeptModel" "imageThe" "I", Cond.fieldLink RX12 134 "EclipsesKeptModel" "imageNeeds" "I", Cond.fieldLink RX12 137 "EclipsesKeptModel" "imageDark" "I", Cond.fieldLink RX12 140 "EclipsesKeptModel" "imageGlory" "I", Cond.fieldLink RX12 143 "EclipsesKeptModel" "imageYear" "I", Cond.fieldLink RX12 146 "EclipsesKeptModel" "imageComes" "I", Cond.fieldLink RX12 149 "EclipsesKeptModel" "imageSeen" "I", Cond.fieldLink RX12 152 "EclipsesKeptModel" "imageBooks" "I", Cond.fieldLink RX12 155 "EclipsesKeptModel" "imageKind" "[I", Cond.fieldLink RX12 158 "EclipsesKeptModel" "imageV" "[I", Cond.fieldLink RX12 161 "EclipsesKeptModel" "imageServed" "[I", Cond.fieldLink RX12 164 "EclipsesKeptModel" "imageRows" "[I", Cond.fieldLink RX12 167 "EclipsesKeptModel" "imageComesNeed" "[I", Cond.fieldLink RX12 170 "EclipsesKeptModel" "imageSeenNeed" "[I", Cond.fieldLink RX12 173 "EclipsesKeptModel" "imageWorth" "[I", Cond.fieldLink RX12 176 "EclipsesKeptModel" "imageWhen" "[I", Cond.fieldLink RX12 179 "EclipsesKeptModel" "imageBookNeed" "[I", Cond.fieldLink RX12 182 "EclipsesKeptModel" "imageBookServed" "[I", Cond.fieldLink RX12 185 "EclipsesKeptModel" "ran" "I", Cond.fieldLink RX12 188 "EclipsesKeptModel" "bodies" "[I", Cond.fieldLink RX12 191 "EclipsesKeptModel" "sort" "[I", Cond.fieldLink RX12 194 "EclipsesKeptModel" "length" "[I", Cond.fieldLink RX12 197 "EclipsesKeptModel" "item" "[J", Cond.fieldLink RX12 200 "EclipsesKeptModel" "aside" "[J"]
def nn_mW : List Cond := nn_mw ++ wsX120
theorem nw0 : Cond.methodLink RX12 1 objectInit ∈ nn_mW := List.mem_append_left _ (List.mem_of_getElem? (i := 0) rfl)
theorem nw1 : Cond.instanceMethod objectInit ∈ nn_mW := List.mem_append_left _ (List.mem_of_getElem? (i := 1) rfl)
theorem nw2 : Cond.code objectInit ⟨#[0xb1]⟩ 1 none ∈ nn_mW := List.mem_append_left _ (List.mem_of_getElem? (i := 2) rfl)
theorem nw3 : Cond.fieldLink RX12 7 "EclipsesKeptModel" "needs" "I" ∈ nn_mW := List.mem_append_left _ (List.mem_of_getElem? (i := 3) rfl)
theorem nw4 : Cond.fieldLink RX12 13 "EclipsesKeptModel" "dark" "I" ∈ nn_mW := List.mem_append_left _ (List.mem_of_getElem? (i := 4) rfl)
theorem nw5 : Cond.fieldLink RX12 16 "EclipsesKeptModel" "glory" "I" ∈ nn_mW := List.mem_append_left _ (List.mem_of_getElem? (i := 5) rfl)
theorem nw6 : Cond.fieldLink RX12 19 "EclipsesKeptModel" "year" "I" ∈ nn_mW := List.mem_append_left _ (List.mem_of_getElem? (i := 6) rfl)
theorem nw7 : Cond.arrayClass .int ∈ nn_mW := List.mem_append_left _ (List.mem_of_getElem? (i := 7) rfl)
theorem nw8 : Cond.fieldLink RX12 22 "EclipsesKeptModel" "kind" "[I" ∈ nn_mW := List.mem_append_left _ (List.mem_of_getElem? (i := 8) rfl)
theorem nw9 : Cond.fieldLink RX12 26 "EclipsesKeptModel" "v" "[I" ∈ nn_mW := List.mem_append_left _ (List.mem_of_getElem? (i := 9) rfl)
theorem nw10 : Cond.fieldLink RX12 29 "EclipsesKeptModel" "served" "[I" ∈ nn_mW := List.mem_append_left _ (List.mem_of_getElem? (i := 10) rfl)
theorem nw11 : Cond.fieldLink RX12 32 "EclipsesKeptModel" "rows" "[I" ∈ nn_mW := List.mem_append_left _ (List.mem_of_getElem? (i := 11) rfl)
theorem nw12 : Cond.fieldLink RX12 35 "EclipsesKeptModel" "archives" "I" ∈ nn_mW := List.mem_append_left _ (List.mem_of_getElem? (i := 12) rfl)
theorem nw13 : Cond.fieldLink RX12 38 "EclipsesKeptModel" "the" "I" ∈ nn_mW := List.mem_append_left _ (List.mem_of_getElem? (i := 13) rfl)
theorem nw14 : Cond.fieldLink RX12 41 "EclipsesKeptModel" "fed" "I" ∈ nn_mW := List.mem_append_left _ (List.mem_of_getElem? (i := 14) rfl)
theorem nw15 : Cond.fieldLink RX12 44 "EclipsesKeptModel" "at" "I" ∈ nn_mW := List.mem_append_left _ (List.mem_of_getElem? (i := 15) rfl)
theorem nw16 : Cond.fieldLink RX12 47 "EclipsesKeptModel" "digits" "I" ∈ nn_mW := List.mem_append_left _ (List.mem_of_getElem? (i := 16) rfl)
theorem nw17 : Cond.fieldLink RX12 50 "EclipsesKeptModel" "text" "[I" ∈ nn_mW := List.mem_append_left _ (List.mem_of_getElem? (i := 17) rfl)
theorem nw18 : Cond.fieldLink RX12 53 "EclipsesKeptModel" "clauses" "[I" ∈ nn_mW := List.mem_append_left _ (List.mem_of_getElem? (i := 18) rfl)
theorem nw19 : Cond.fieldLink RX12 56 "EclipsesKeptModel" "word" "[I" ∈ nn_mW := List.mem_append_left _ (List.mem_of_getElem? (i := 19) rfl)
theorem nw20 : Cond.fieldLink RX12 59 "EclipsesKeptModel" "number" "[I" ∈ nn_mW := List.mem_append_left _ (List.mem_of_getElem? (i := 20) rfl)
theorem nw21 : Cond.fieldLink RX12 62 "EclipsesKeptModel" "from" "[I" ∈ nn_mW := List.mem_append_left _ (List.mem_of_getElem? (i := 21) rfl)
theorem nw22 : Cond.fieldLink RX12 65 "EclipsesKeptModel" "to" "[I" ∈ nn_mW := List.mem_append_left _ (List.mem_of_getElem? (i := 22) rfl)
theorem nw23 : Cond.fieldLink RX12 68 "EclipsesKeptModel" "sign" "[I" ∈ nn_mW := List.mem_append_left _ (List.mem_of_getElem? (i := 23) rfl)
theorem nw24 : Cond.fieldLink RX12 71 "EclipsesKeptModel" "waits" "[I" ∈ nn_mW := List.mem_append_left _ (List.mem_of_getElem? (i := 24) rfl)
theorem nw25 : Cond.fieldLink RX12 74 "EclipsesKeptModel" "signs" "I" ∈ nn_mW := List.mem_append_left _ (List.mem_of_getElem? (i := 25) rfl)
theorem nw26 : Cond.fieldLink RX12 77 "EclipsesKeptModel" "waiting" "I" ∈ nn_mW := List.mem_append_left _ (List.mem_of_getElem? (i := 26) rfl)
theorem nw27 : Cond.fieldLink RX12 80 "EclipsesKeptModel" "open" "I" ∈ nn_mW := List.mem_append_left _ (List.mem_of_getElem? (i := 27) rfl)
theorem nw28 : Cond.fieldLink RX12 83 "EclipsesKeptModel" "letters" "[I" ∈ nn_mW := List.mem_append_left _ (List.mem_of_getElem? (i := 28) rfl)
theorem nw29 : Cond.arrayClass .boolean ∈ nn_mW := List.mem_append_left _ (List.mem_of_getElem? (i := 29) rfl)
theorem nw30 : Cond.fieldLink RX12 86 "EclipsesKeptModel" "pile" "[Z" ∈ nn_mW := List.mem_append_left _ (List.mem_of_getElem? (i := 30) rfl)
theorem nw31 : Cond.arrayClass .long ∈ nn_mW := List.mem_append_left _ (List.mem_of_getElem? (i := 31) rfl)
theorem nw32 : Cond.fieldLink RX12 90 "EclipsesKeptModel" "gain" "[J" ∈ nn_mW := List.mem_append_left _ (List.mem_of_getElem? (i := 32) rfl)
theorem nw33 : Cond.fieldLink RX12 94 "EclipsesKeptModel" "chosenSet" "I" ∈ nn_mW := List.mem_append_left _ (List.mem_of_getElem? (i := 33) rfl)
theorem nw34 : Cond.fieldLink RX12 97 "EclipsesKeptModel" "out" "[J" ∈ nn_mW := List.mem_append_left _ (List.mem_of_getElem? (i := 34) rfl)
theorem nw35 : Cond.fieldLink RX12 100 "EclipsesKeptModel" "comes" "I" ∈ nn_mW := List.mem_append_left _ (List.mem_of_getElem? (i := 35) rfl)
theorem nw36 : Cond.fieldLink RX12 103 "EclipsesKeptModel" "comesNeed" "[I" ∈ nn_mW := List.mem_append_left _ (List.mem_of_getElem? (i := 36) rfl)
theorem nw37 : Cond.fieldLink RX12 106 "EclipsesKeptModel" "seen" "I" ∈ nn_mW := List.mem_append_left _ (List.mem_of_getElem? (i := 37) rfl)
theorem nw38 : Cond.fieldLink RX12 109 "EclipsesKeptModel" "books" "I" ∈ nn_mW := List.mem_append_left _ (List.mem_of_getElem? (i := 38) rfl)
theorem nw39 : Cond.fieldLink RX12 112 "EclipsesKeptModel" "seenNeed" "[I" ∈ nn_mW := List.mem_append_left _ (List.mem_of_getElem? (i := 39) rfl)
theorem nw40 : Cond.fieldLink RX12 115 "EclipsesKeptModel" "seenWorth" "[I" ∈ nn_mW := List.mem_append_left _ (List.mem_of_getElem? (i := 40) rfl)
theorem nw41 : Cond.fieldLink RX12 118 "EclipsesKeptModel" "seenWhen" "[I" ∈ nn_mW := List.mem_append_left _ (List.mem_of_getElem? (i := 41) rfl)
theorem nw42 : Cond.fieldLink RX12 121 "EclipsesKeptModel" "bookNeed" "[I" ∈ nn_mW := List.mem_append_left _ (List.mem_of_getElem? (i := 42) rfl)
theorem nw43 : Cond.fieldLink RX12 124 "EclipsesKeptModel" "bookServed" "[I" ∈ nn_mW := List.mem_append_left _ (List.mem_of_getElem? (i := 43) rfl)
theorem nw44 : Cond.fieldLink RX12 127 "EclipsesKeptModel" "hasImage" "Z" ∈ nn_mW := List.mem_append_left _ (List.mem_of_getElem? (i := 44) rfl)
theorem nw45 : Cond.fieldLink RX12 131 "EclipsesKeptModel" "imageThe" "I" ∈ nn_mW := List.mem_append_left _ (List.mem_of_getElem? (i := 45) rfl)
theorem nw46 : Cond.fieldLink RX12 134 "EclipsesKeptModel" "imageNeeds" "I" ∈ nn_mW := List.mem_append_left _ (List.mem_of_getElem? (i := 46) rfl)
theorem nw47 : Cond.fieldLink RX12 137 "EclipsesKeptModel" "imageDark" "I" ∈ nn_mW := List.mem_append_left _ (List.mem_of_getElem? (i := 47) rfl)
theorem nw48 : Cond.fieldLink RX12 140 "EclipsesKeptModel" "imageGlory" "I" ∈ nn_mW := List.mem_append_left _ (List.mem_of_getElem? (i := 48) rfl)
theorem nw49 : Cond.fieldLink RX12 143 "EclipsesKeptModel" "imageYear" "I" ∈ nn_mW := List.mem_append_left _ (List.mem_of_getElem? (i := 49) rfl)
theorem nw50 : Cond.fieldLink RX12 146 "EclipsesKeptModel" "imageComes" "I" ∈ nn_mW := List.mem_append_left _ (List.mem_of_getElem? (i := 50) rfl)
theorem nw51 : Cond.fieldLink RX12 149 "EclipsesKeptModel" "imageSeen" "I" ∈ nn_mW := List.mem_append_left _ (List.mem_of_getElem? (i := 51) rfl)
theorem nw52 : Cond.fieldLink RX12 152 "EclipsesKeptModel" "imageBooks" "I" ∈ nn_mW := List.mem_append_left _ (List.mem_of_getElem? (i := 52) rfl)
theorem nw53 : Cond.fieldLink RX12 155 "EclipsesKeptModel" "imageKind" "[I" ∈ nn_mW := List.mem_append_left _ (List.mem_of_getElem? (i := 53) rfl)
theorem nw54 : Cond.fieldLink RX12 158 "EclipsesKeptModel" "imageV" "[I" ∈ nn_mW := List.mem_append_left _ (List.mem_of_getElem? (i := 54) rfl)
theorem nw55 : Cond.fieldLink RX12 161 "EclipsesKeptModel" "imageServed" "[I" ∈ nn_mW := List.mem_append_left _ (List.mem_of_getElem? (i := 55) rfl)
theorem nw56 : Cond.fieldLink RX12 164 "EclipsesKeptModel" "imageRows" "[I" ∈ nn_mW := List.mem_append_left _ (List.mem_of_getElem? (i := 56) rfl)
theorem nw57 : Cond.fieldLink RX12 167 "EclipsesKeptModel" "imageComesNeed" "[I" ∈ nn_mW := List.mem_append_left _ (List.mem_of_getElem? (i := 57) rfl)
theorem nw58 : Cond.fieldLink RX12 170 "EclipsesKeptModel" "imageSeenNeed" "[I" ∈ nn_mW := List.mem_append_left _ (List.mem_of_getElem? (i := 58) rfl)
theorem nw59 : Cond.fieldLink RX12 173 "EclipsesKeptModel" "imageWorth" "[I" ∈ nn_mW := List.mem_append_left _ (List.mem_of_getElem? (i := 59) rfl)
theorem nw60 : Cond.fieldLink RX12 176 "EclipsesKeptModel" "imageWhen" "[I" ∈ nn_mW := List.mem_append_left _ (List.mem_of_getElem? (i := 60) rfl)
theorem nw61 : Cond.fieldLink RX12 179 "EclipsesKeptModel" "imageBookNeed" "[I" ∈ nn_mW := List.mem_append_left _ (List.mem_of_getElem? (i := 61) rfl)
theorem nw62 : Cond.fieldLink RX12 182 "EclipsesKeptModel" "imageBookServed" "[I" ∈ nn_mW := List.mem_append_left _ (List.mem_of_getElem? (i := 62) rfl)
theorem nw63 : Cond.fieldLink RX12 185 "EclipsesKeptModel" "ran" "I" ∈ nn_mW := List.mem_append_left _ (List.mem_of_getElem? (i := 63) rfl)
theorem nw64 : Cond.fieldLink RX12 188 "EclipsesKeptModel" "bodies" "[I" ∈ nn_mW := List.mem_append_left _ (List.mem_of_getElem? (i := 64) rfl)
theorem nw65 : Cond.fieldLink RX12 191 "EclipsesKeptModel" "sort" "[I" ∈ nn_mW := List.mem_append_left _ (List.mem_of_getElem? (i := 65) rfl)
theorem nw66 : Cond.fieldLink RX12 194 "EclipsesKeptModel" "length" "[I" ∈ nn_mW := List.mem_append_left _ (List.mem_of_getElem? (i := 66) rfl)
theorem nw67 : Cond.fieldLink RX12 197 "EclipsesKeptModel" "item" "[J" ∈ nn_mW := List.mem_append_left _ (List.mem_of_getElem? (i := 67) rfl)
theorem nw68 : Cond.fieldLink RX12 200 "EclipsesKeptModel" "aside" "[J" ∈ nn_mW := List.mem_append_left _ (List.mem_of_getElem? (i := 68) rfl)
theorem nn_Win : ∀ w ∈ wsX120, w ∈ nn_mW := fun _ h => List.mem_append_right _ h
set_option maxHeartbeats 8000000 in
set_option maxRecDepth 100000 in
theorem c_X12_init (l : Launch) (D : va_G) (cs : ClassId × ClassId × ClassId) (x0 : Nat) : nn_M l D nn_mW (mm_tys cs) yX12_init cX12_init 1 1 12 37 1954 [.ref x0] (fun _ => True) (nn_W x0 14 63 (fun j => defaultValue (tyX12 j)) []) (fun u => ∃ ad : Nat → Nat, u = mm_w x0 ad cs mm_st0) := by
  refine nn_enter (own := RX12) (by decide) rfl (Nat.le_of_ble_eq_true rfl) ?_
  intro p e s m args below meth c ls A C hE hl hM
  have hl : lv_has ls 1 [(0, .ref x0)] := hl
  refine lv_aload_n C.1 C.2.1 (dd_at td_X12_init 0 rfl) rfl (lv_at hl 0 rfl) ?_
  refine nn_obj C hl.1 nw0 nw1 nw2 (dd_at td_X12_init 1 rfl) (Nat.le_of_ble_eq_true rfl) (Nat.le_of_ble_eq_true rfl) ?_
  refine lv_aload_n C.1 C.2.1 (dd_at td_X12_init 2 rfl) rfl (lv_at hl 0 rfl) ?_
  refine lv_iconst (v := (0 : Int32)) C.1 C.2.1 (dd_at td_X12_init 3 rfl) (by decide) ?_
  refine nn_put C hM (ref := RX12) (K := RX12) (T := TX12) (k := 0) (ty0 := tyX12) rfl nn_Win tyX12_ok nmX12 (Nat.le_of_ble_eq_true rfl) nw3 rfl rfl rfl rfl (dd_at td_X12_init 4 rfl) (fun H locs hM => ?_)
  refine lv_aload_n C.1 C.2.1 (dd_at td_X12_init 5 rfl) rfl (lv_at hl 0 rfl) ?_
  refine lv_iconst (v := (3 : Int32)) C.1 C.2.1 (dd_at td_X12_init 6 rfl) (by decide) ?_
  refine nn_put C hM (ref := RX12) (K := RX12) (T := TX12) (k := 1) (ty0 := tyX12) rfl nn_Win tyX12_ok nmX12 (Nat.le_of_ble_eq_true rfl) nw4 rfl rfl rfl rfl (dd_at td_X12_init 7 rfl) (fun H locs hM => ?_)
  refine lv_aload_n C.1 C.2.1 (dd_at td_X12_init 8 rfl) rfl (lv_at hl 0 rfl) ?_
  refine lv_iconst (v := (0 : Int32)) C.1 C.2.1 (dd_at td_X12_init 9 rfl) (by decide) ?_
  refine nn_put C hM (ref := RX12) (K := RX12) (T := TX12) (k := 2) (ty0 := tyX12) rfl nn_Win tyX12_ok nmX12 (Nat.le_of_ble_eq_true rfl) nw5 rfl rfl rfl rfl (dd_at td_X12_init 10 rfl) (fun H locs hM => ?_)
  refine lv_aload_n C.1 C.2.1 (dd_at td_X12_init 11 rfl) rfl (lv_at hl 0 rfl) ?_
  refine lv_iconst (v := (0 : Int32)) C.1 C.2.1 (dd_at td_X12_init 12 rfl) (by decide) ?_
  refine nn_put C hM (ref := RX12) (K := RX12) (T := TX12) (k := 3) (ty0 := tyX12) rfl nn_Win tyX12_ok nmX12 (Nat.le_of_ble_eq_true rfl) nw6 rfl rfl rfl rfl (dd_at td_X12_init 13 rfl) (fun H locs hM => ?_)
  refine lv_aload_n C.1 C.2.1 (dd_at td_X12_init 14 rfl) rfl (lv_at hl 0 rfl) ?_
  refine lv_bipush (v := (6 : Int32)) C.1 C.2.1 (dd_at td_X12_init 15 rfl) (by decide) ?_
  refine nn_arr (ty := .int) C hM (atype := .int) (t0 := 0) (c0 := (cs.1)) (N' := 6) (6, .inl (fun _ => 0)) nw7 rfl rfl nn_uI (fun _ => rfl) (by decide) rfl (Nat.le_of_ble_eq_true rfl) (Nat.le_of_ble_eq_true rfl) (Nat.le_of_ble_eq_true rfl) (dd_at td_X12_init 16 rfl) (fun q0 H hM => ?_)
  refine nn_putF C hM (K := RX12) (T := TX12) (k := 4) (ty0 := tyX12) rfl nn_Win tyX12_ok nmX12 (Nat.le_of_ble_eq_true rfl) nw8 rfl rfl rfl rfl rfl (dd_at td_X12_init 17 rfl) (fun H locs hM => ?_)
  refine lv_aload_n C.1 C.2.1 (dd_at td_X12_init 18 rfl) rfl (lv_at hl 0 rfl) ?_
  refine lv_bipush (v := (6 : Int32)) C.1 C.2.1 (dd_at td_X12_init 19 rfl) (by decide) ?_
  refine nn_arr (ty := .int) C hM (atype := .int) (t0 := 0) (c0 := (cs.1)) (N' := 6) (6, .inl (fun _ => 0)) nw7 rfl rfl nn_uI (fun _ => rfl) (by decide) rfl (Nat.le_of_ble_eq_true rfl) (Nat.le_of_ble_eq_true rfl) (Nat.le_of_ble_eq_true rfl) (dd_at td_X12_init 20 rfl) (fun q1 H hM => ?_)
  refine nn_putF C hM (K := RX12) (T := TX12) (k := 5) (ty0 := tyX12) rfl nn_Win tyX12_ok nmX12 (Nat.le_of_ble_eq_true rfl) nw9 rfl rfl rfl rfl rfl (dd_at td_X12_init 21 rfl) (fun H locs hM => ?_)
  refine lv_aload_n C.1 C.2.1 (dd_at td_X12_init 22 rfl) rfl (lv_at hl 0 rfl) ?_
  refine lv_bipush (v := (6 : Int32)) C.1 C.2.1 (dd_at td_X12_init 23 rfl) (by decide) ?_
  refine nn_arr (ty := .int) C hM (atype := .int) (t0 := 0) (c0 := (cs.1)) (N' := 6) (6, .inl (fun _ => 0)) nw7 rfl rfl nn_uI (fun _ => rfl) (by decide) rfl (Nat.le_of_ble_eq_true rfl) (Nat.le_of_ble_eq_true rfl) (Nat.le_of_ble_eq_true rfl) (dd_at td_X12_init 24 rfl) (fun q2 H hM => ?_)
  refine nn_putF C hM (K := RX12) (T := TX12) (k := 6) (ty0 := tyX12) rfl nn_Win tyX12_ok nmX12 (Nat.le_of_ble_eq_true rfl) nw10 rfl rfl rfl rfl rfl (dd_at td_X12_init 25 rfl) (fun H locs hM => ?_)
  refine lv_aload_n C.1 C.2.1 (dd_at td_X12_init 26 rfl) rfl (lv_at hl 0 rfl) ?_
  refine lv_bipush (v := (24 : Int32)) C.1 C.2.1 (dd_at td_X12_init 27 rfl) (by decide) ?_
  refine nn_arr (ty := .int) C hM (atype := .int) (t0 := 0) (c0 := (cs.1)) (N' := 24) (24, .inl (fun _ => 0)) nw7 rfl rfl nn_uI (fun _ => rfl) (by decide) rfl (Nat.le_of_ble_eq_true rfl) (Nat.le_of_ble_eq_true rfl) (Nat.le_of_ble_eq_true rfl) (dd_at td_X12_init 28 rfl) (fun q3 H hM => ?_)
  refine nn_putF C hM (K := RX12) (T := TX12) (k := 7) (ty0 := tyX12) rfl nn_Win tyX12_ok nmX12 (Nat.le_of_ble_eq_true rfl) nw11 rfl rfl rfl rfl rfl (dd_at td_X12_init 29 rfl) (fun H locs hM => ?_)
  refine lv_aload_n C.1 C.2.1 (dd_at td_X12_init 30 rfl) rfl (lv_at hl 0 rfl) ?_
  refine lv_iconst (v := (0 : Int32)) C.1 C.2.1 (dd_at td_X12_init 31 rfl) (by decide) ?_
  refine nn_put C hM (ref := RX12) (K := RX12) (T := TX12) (k := 8) (ty0 := tyX12) rfl nn_Win tyX12_ok nmX12 (Nat.le_of_ble_eq_true rfl) nw12 rfl rfl rfl rfl (dd_at td_X12_init 32 rfl) (fun H locs hM => ?_)
  refine lv_aload_n C.1 C.2.1 (dd_at td_X12_init 33 rfl) rfl (lv_at hl 0 rfl) ?_
  refine lv_iconst (v := (-1 : Int32)) C.1 C.2.1 (dd_at td_X12_init 34 rfl) (by decide) ?_
  refine nn_put C hM (ref := RX12) (K := RX12) (T := TX12) (k := 9) (ty0 := tyX12) rfl nn_Win tyX12_ok nmX12 (Nat.le_of_ble_eq_true rfl) nw13 rfl rfl rfl rfl (dd_at td_X12_init 35 rfl) (fun H locs hM => ?_)
  refine lv_aload_n C.1 C.2.1 (dd_at td_X12_init 36 rfl) rfl (lv_at hl 0 rfl) ?_
  refine lv_iconst (v := (0 : Int32)) C.1 C.2.1 (dd_at td_X12_init 37 rfl) (by decide) ?_
  refine nn_put C hM (ref := RX12) (K := RX12) (T := TX12) (k := 10) (ty0 := tyX12) rfl nn_Win tyX12_ok nmX12 (Nat.le_of_ble_eq_true rfl) nw14 rfl rfl rfl rfl (dd_at td_X12_init 38 rfl) (fun H locs hM => ?_)
  refine lv_aload_n C.1 C.2.1 (dd_at td_X12_init 39 rfl) rfl (lv_at hl 0 rfl) ?_
  refine lv_iconst (v := (0 : Int32)) C.1 C.2.1 (dd_at td_X12_init 40 rfl) (by decide) ?_
  refine nn_put C hM (ref := RX12) (K := RX12) (T := TX12) (k := 11) (ty0 := tyX12) rfl nn_Win tyX12_ok nmX12 (Nat.le_of_ble_eq_true rfl) nw15 rfl rfl rfl rfl (dd_at td_X12_init 41 rfl) (fun H locs hM => ?_)
  refine lv_aload_n C.1 C.2.1 (dd_at td_X12_init 42 rfl) rfl (lv_at hl 0 rfl) ?_
  refine lv_iconst (v := (0 : Int32)) C.1 C.2.1 (dd_at td_X12_init 43 rfl) (by decide) ?_
  refine nn_put C hM (ref := RX12) (K := RX12) (T := TX12) (k := 12) (ty0 := tyX12) rfl nn_Win tyX12_ok nmX12 (Nat.le_of_ble_eq_true rfl) nw16 rfl rfl rfl rfl (dd_at td_X12_init 44 rfl) (fun H locs hM => ?_)
  refine lv_aload_n C.1 C.2.1 (dd_at td_X12_init 45 rfl) rfl (lv_at hl 0 rfl) ?_
  refine lv_bipush (v := (100 : Int32)) C.1 C.2.1 (dd_at td_X12_init 46 rfl) (by decide) ?_
  refine nn_arr (ty := .int) C hM (atype := .int) (t0 := 0) (c0 := (cs.1)) (N' := 100) (100, .inl (fun _ => 0)) nw7 rfl rfl nn_uI (fun _ => rfl) (by decide) rfl (Nat.le_of_ble_eq_true rfl) (Nat.le_of_ble_eq_true rfl) (Nat.le_of_ble_eq_true rfl) (dd_at td_X12_init 47 rfl) (fun q4 H hM => ?_)
  refine nn_putF C hM (K := RX12) (T := TX12) (k := 13) (ty0 := tyX12) rfl nn_Win tyX12_ok nmX12 (Nat.le_of_ble_eq_true rfl) nw17 rfl rfl rfl rfl rfl (dd_at td_X12_init 48 rfl) (fun H locs hM => ?_)
  refine lv_aload_n C.1 C.2.1 (dd_at td_X12_init 49 rfl) rfl (lv_at hl 0 rfl) ?_
  refine lv_bipush (v := (6 : Int32)) C.1 C.2.1 (dd_at td_X12_init 50 rfl) (by decide) ?_
  refine nn_arr (ty := .int) C hM (atype := .int) (t0 := 0) (c0 := (cs.1)) (N' := 6) (6, .inl (fun _ => 0)) nw7 rfl rfl nn_uI (fun _ => rfl) (by decide) rfl (Nat.le_of_ble_eq_true rfl) (Nat.le_of_ble_eq_true rfl) (Nat.le_of_ble_eq_true rfl) (dd_at td_X12_init 51 rfl) (fun q5 H hM => ?_)
  refine nn_putF C hM (K := RX12) (T := TX12) (k := 14) (ty0 := tyX12) rfl nn_Win tyX12_ok nmX12 (Nat.le_of_ble_eq_true rfl) nw18 rfl rfl rfl rfl rfl (dd_at td_X12_init 52 rfl) (fun H locs hM => ?_)
  refine lv_aload_n C.1 C.2.1 (dd_at td_X12_init 53 rfl) rfl (lv_at hl 0 rfl) ?_
  refine lv_bipush (v := (60 : Int32)) C.1 C.2.1 (dd_at td_X12_init 54 rfl) (by decide) ?_
  refine nn_arr (ty := .int) C hM (atype := .int) (t0 := 0) (c0 := (cs.1)) (N' := 60) (60, .inl (fun _ => 0)) nw7 rfl rfl nn_uI (fun _ => rfl) (by decide) rfl (Nat.le_of_ble_eq_true rfl) (Nat.le_of_ble_eq_true rfl) (Nat.le_of_ble_eq_true rfl) (dd_at td_X12_init 55 rfl) (fun q6 H hM => ?_)
  refine nn_putF C hM (K := RX12) (T := TX12) (k := 15) (ty0 := tyX12) rfl nn_Win tyX12_ok nmX12 (Nat.le_of_ble_eq_true rfl) nw19 rfl rfl rfl rfl rfl (dd_at td_X12_init 56 rfl) (fun H locs hM => ?_)
  refine lv_aload_n C.1 C.2.1 (dd_at td_X12_init 57 rfl) rfl (lv_at hl 0 rfl) ?_
  refine lv_bipush (v := (60 : Int32)) C.1 C.2.1 (dd_at td_X12_init 58 rfl) (by decide) ?_
  refine nn_arr (ty := .int) C hM (atype := .int) (t0 := 0) (c0 := (cs.1)) (N' := 60) (60, .inl (fun _ => 0)) nw7 rfl rfl nn_uI (fun _ => rfl) (by decide) rfl (Nat.le_of_ble_eq_true rfl) (Nat.le_of_ble_eq_true rfl) (Nat.le_of_ble_eq_true rfl) (dd_at td_X12_init 59 rfl) (fun q7 H hM => ?_)
  refine nn_putF C hM (K := RX12) (T := TX12) (k := 16) (ty0 := tyX12) rfl nn_Win tyX12_ok nmX12 (Nat.le_of_ble_eq_true rfl) nw20 rfl rfl rfl rfl rfl (dd_at td_X12_init 60 rfl) (fun H locs hM => ?_)
  refine lv_aload_n C.1 C.2.1 (dd_at td_X12_init 61 rfl) rfl (lv_at hl 0 rfl) ?_
  refine lv_bipush (v := (60 : Int32)) C.1 C.2.1 (dd_at td_X12_init 62 rfl) (by decide) ?_
  refine nn_arr (ty := .int) C hM (atype := .int) (t0 := 0) (c0 := (cs.1)) (N' := 60) (60, .inl (fun _ => 0)) nw7 rfl rfl nn_uI (fun _ => rfl) (by decide) rfl (Nat.le_of_ble_eq_true rfl) (Nat.le_of_ble_eq_true rfl) (Nat.le_of_ble_eq_true rfl) (dd_at td_X12_init 63 rfl) (fun q8 H hM => ?_)
  refine nn_putF C hM (K := RX12) (T := TX12) (k := 17) (ty0 := tyX12) rfl nn_Win tyX12_ok nmX12 (Nat.le_of_ble_eq_true rfl) nw21 rfl rfl rfl rfl rfl (dd_at td_X12_init 64 rfl) (fun H locs hM => ?_)
  refine lv_aload_n C.1 C.2.1 (dd_at td_X12_init 65 rfl) rfl (lv_at hl 0 rfl) ?_
  refine lv_bipush (v := (60 : Int32)) C.1 C.2.1 (dd_at td_X12_init 66 rfl) (by decide) ?_
  refine nn_arr (ty := .int) C hM (atype := .int) (t0 := 0) (c0 := (cs.1)) (N' := 60) (60, .inl (fun _ => 0)) nw7 rfl rfl nn_uI (fun _ => rfl) (by decide) rfl (Nat.le_of_ble_eq_true rfl) (Nat.le_of_ble_eq_true rfl) (Nat.le_of_ble_eq_true rfl) (dd_at td_X12_init 67 rfl) (fun q9 H hM => ?_)
  refine nn_putF C hM (K := RX12) (T := TX12) (k := 18) (ty0 := tyX12) rfl nn_Win tyX12_ok nmX12 (Nat.le_of_ble_eq_true rfl) nw22 rfl rfl rfl rfl rfl (dd_at td_X12_init 68 rfl) (fun H locs hM => ?_)
  refine lv_aload_n C.1 C.2.1 (dd_at td_X12_init 69 rfl) rfl (lv_at hl 0 rfl) ?_
  refine lv_sipush (v := (600 : Int32)) C.1 C.2.1 (dd_at td_X12_init 70 rfl) (by decide) ?_
  refine nn_arr (ty := .int) C hM (atype := .int) (t0 := 0) (c0 := (cs.1)) (N' := 600) (600, .inl (fun _ => 0)) nw7 rfl rfl nn_uI (fun _ => rfl) (by decide) rfl (Nat.le_of_ble_eq_true rfl) (Nat.le_of_ble_eq_true rfl) (Nat.le_of_ble_eq_true rfl) (dd_at td_X12_init 71 rfl) (fun q10 H hM => ?_)
  refine nn_putF C hM (K := RX12) (T := TX12) (k := 19) (ty0 := tyX12) rfl nn_Win tyX12_ok nmX12 (Nat.le_of_ble_eq_true rfl) nw23 rfl rfl rfl rfl rfl (dd_at td_X12_init 72 rfl) (fun H locs hM => ?_)
  refine lv_aload_n C.1 C.2.1 (dd_at td_X12_init 73 rfl) rfl (lv_at hl 0 rfl) ?_
  refine lv_bipush (v := (101 : Int32)) C.1 C.2.1 (dd_at td_X12_init 74 rfl) (by decide) ?_
  refine nn_arr (ty := .int) C hM (atype := .int) (t0 := 0) (c0 := (cs.1)) (N' := 101) (101, .inl (fun _ => 0)) nw7 rfl rfl nn_uI (fun _ => rfl) (by decide) rfl (Nat.le_of_ble_eq_true rfl) (Nat.le_of_ble_eq_true rfl) (Nat.le_of_ble_eq_true rfl) (dd_at td_X12_init 75 rfl) (fun q11 H hM => ?_)
  refine nn_putF C hM (K := RX12) (T := TX12) (k := 20) (ty0 := tyX12) rfl nn_Win tyX12_ok nmX12 (Nat.le_of_ble_eq_true rfl) nw24 rfl rfl rfl rfl rfl (dd_at td_X12_init 76 rfl) (fun H locs hM => ?_)
  refine lv_aload_n C.1 C.2.1 (dd_at td_X12_init 77 rfl) rfl (lv_at hl 0 rfl) ?_
  refine lv_iconst (v := (0 : Int32)) C.1 C.2.1 (dd_at td_X12_init 78 rfl) (by decide) ?_
  refine nn_put C hM (ref := RX12) (K := RX12) (T := TX12) (k := 21) (ty0 := tyX12) rfl nn_Win tyX12_ok nmX12 (Nat.le_of_ble_eq_true rfl) nw25 rfl rfl rfl rfl (dd_at td_X12_init 79 rfl) (fun H locs hM => ?_)
  refine lv_aload_n C.1 C.2.1 (dd_at td_X12_init 80 rfl) rfl (lv_at hl 0 rfl) ?_
  refine lv_iconst (v := (0 : Int32)) C.1 C.2.1 (dd_at td_X12_init 81 rfl) (by decide) ?_
  refine nn_put C hM (ref := RX12) (K := RX12) (T := TX12) (k := 22) (ty0 := tyX12) rfl nn_Win tyX12_ok nmX12 (Nat.le_of_ble_eq_true rfl) nw26 rfl rfl rfl rfl (dd_at td_X12_init 82 rfl) (fun H locs hM => ?_)
  refine lv_aload_n C.1 C.2.1 (dd_at td_X12_init 83 rfl) rfl (lv_at hl 0 rfl) ?_
  refine lv_iconst (v := (0 : Int32)) C.1 C.2.1 (dd_at td_X12_init 84 rfl) (by decide) ?_
  refine nn_put C hM (ref := RX12) (K := RX12) (T := TX12) (k := 23) (ty0 := tyX12) rfl nn_Win tyX12_ok nmX12 (Nat.le_of_ble_eq_true rfl) nw27 rfl rfl rfl rfl (dd_at td_X12_init 85 rfl) (fun H locs hM => ?_)
  refine lv_aload_n C.1 C.2.1 (dd_at td_X12_init 86 rfl) rfl (lv_at hl 0 rfl) ?_
  refine lv_bipush (v := (13 : Int32)) C.1 C.2.1 (dd_at td_X12_init 87 rfl) (by decide) ?_
  refine nn_arr (ty := .int) C hM (atype := .int) (t0 := 0) (c0 := (cs.1)) (N' := 13) (13, .inl (fun _ => 0)) nw7 rfl rfl nn_uI (fun _ => rfl) (by decide) rfl (Nat.le_of_ble_eq_true rfl) (Nat.le_of_ble_eq_true rfl) (Nat.le_of_ble_eq_true rfl) (dd_at td_X12_init 88 rfl) (fun q12 H hM => ?_)
  refine lv_dup C.1 C.2.1 (dd_at td_X12_init 89 rfl) rfl ?_
  refine lv_iconst (v := (0 : Int32)) C.1 C.2.1 (dd_at td_X12_init 90 rfl) (by decide) ?_
  refine lv_bipush (v := (102 : Int32)) C.1 C.2.1 (dd_at td_X12_init 91 rfl) (by decide) ?_
  refine nn_ast C hM (t0 := 0) rfl (by decide) (dd_at td_X12_init 92 rfl) (fun H locs hM => ?_)
  refine lv_dup C.1 C.2.1 (dd_at td_X12_init 93 rfl) rfl ?_
  refine lv_iconst (v := (1 : Int32)) C.1 C.2.1 (dd_at td_X12_init 94 rfl) (by decide) ?_
  refine lv_bipush (v := (97 : Int32)) C.1 C.2.1 (dd_at td_X12_init 95 rfl) (by decide) ?_
  refine nn_ast C hM (t0 := 0) rfl (by decide) (dd_at td_X12_init 96 rfl) (fun H locs hM => ?_)
  refine lv_dup C.1 C.2.1 (dd_at td_X12_init 97 rfl) rfl ?_
  refine lv_iconst (v := (2 : Int32)) C.1 C.2.1 (dd_at td_X12_init 98 rfl) (by decide) ?_
  refine lv_bipush (v := (109 : Int32)) C.1 C.2.1 (dd_at td_X12_init 99 rfl) (by decide) ?_
  refine nn_ast C hM (t0 := 0) rfl (by decide) (dd_at td_X12_init 100 rfl) (fun H locs hM => ?_)
  refine lv_dup C.1 C.2.1 (dd_at td_X12_init 101 rfl) rfl ?_
  refine lv_iconst (v := (3 : Int32)) C.1 C.2.1 (dd_at td_X12_init 102 rfl) (by decide) ?_
  refine lv_bipush (v := (101 : Int32)) C.1 C.2.1 (dd_at td_X12_init 103 rfl) (by decide) ?_
  refine nn_ast C hM (t0 := 0) rfl (by decide) (dd_at td_X12_init 104 rfl) (fun H locs hM => ?_)
  refine lv_dup C.1 C.2.1 (dd_at td_X12_init 105 rfl) rfl ?_
  refine lv_iconst (v := (4 : Int32)) C.1 C.2.1 (dd_at td_X12_init 106 rfl) (by decide) ?_
  refine lv_bipush (v := (115 : Int32)) C.1 C.2.1 (dd_at td_X12_init 107 rfl) (by decide) ?_
  refine nn_ast C hM (t0 := 0) rfl (by decide) (dd_at td_X12_init 108 rfl) (fun H locs hM => ?_)
  refine lv_dup C.1 C.2.1 (dd_at td_X12_init 109 rfl) rfl ?_
  refine lv_iconst (v := (5 : Int32)) C.1 C.2.1 (dd_at td_X12_init 110 rfl) (by decide) ?_
  refine lv_bipush (v := (104 : Int32)) C.1 C.2.1 (dd_at td_X12_init 111 rfl) (by decide) ?_
  refine nn_ast C hM (t0 := 0) rfl (by decide) (dd_at td_X12_init 112 rfl) (fun H locs hM => ?_)
  refine lv_dup C.1 C.2.1 (dd_at td_X12_init 113 rfl) rfl ?_
  refine lv_bipush (v := (6 : Int32)) C.1 C.2.1 (dd_at td_X12_init 114 rfl) (by decide) ?_
  refine lv_bipush (v := (97 : Int32)) C.1 C.2.1 (dd_at td_X12_init 115 rfl) (by decide) ?_
  refine nn_ast C hM (t0 := 0) rfl (by decide) (dd_at td_X12_init 116 rfl) (fun H locs hM => ?_)
  refine lv_dup C.1 C.2.1 (dd_at td_X12_init 117 rfl) rfl ?_
  refine lv_bipush (v := (7 : Int32)) C.1 C.2.1 (dd_at td_X12_init 118 rfl) (by decide) ?_
  refine lv_bipush (v := (109 : Int32)) C.1 C.2.1 (dd_at td_X12_init 119 rfl) (by decide) ?_
  refine nn_ast C hM (t0 := 0) rfl (by decide) (dd_at td_X12_init 120 rfl) (fun H locs hM => ?_)
  refine lv_dup C.1 C.2.1 (dd_at td_X12_init 121 rfl) rfl ?_
  refine lv_bipush (v := (8 : Int32)) C.1 C.2.1 (dd_at td_X12_init 122 rfl) (by decide) ?_
  refine lv_bipush (v := (101 : Int32)) C.1 C.2.1 (dd_at td_X12_init 123 rfl) (by decide) ?_
  refine nn_ast C hM (t0 := 0) rfl (by decide) (dd_at td_X12_init 124 rfl) (fun H locs hM => ?_)
  refine lv_dup C.1 C.2.1 (dd_at td_X12_init 125 rfl) rfl ?_
  refine lv_bipush (v := (9 : Int32)) C.1 C.2.1 (dd_at td_X12_init 126 rfl) (by decide) ?_
  refine lv_bipush (v := (107 : Int32)) C.1 C.2.1 (dd_at td_X12_init 127 rfl) (by decide) ?_
  refine nn_ast C hM (t0 := 0) rfl (by decide) (dd_at td_X12_init 128 rfl) (fun H locs hM => ?_)
  refine lv_dup C.1 C.2.1 (dd_at td_X12_init 129 rfl) rfl ?_
  refine lv_bipush (v := (10 : Int32)) C.1 C.2.1 (dd_at td_X12_init 130 rfl) (by decide) ?_
  refine lv_bipush (v := (101 : Int32)) C.1 C.2.1 (dd_at td_X12_init 131 rfl) (by decide) ?_
  refine nn_ast C hM (t0 := 0) rfl (by decide) (dd_at td_X12_init 132 rfl) (fun H locs hM => ?_)
  refine lv_dup C.1 C.2.1 (dd_at td_X12_init 133 rfl) rfl ?_
  refine lv_bipush (v := (11 : Int32)) C.1 C.2.1 (dd_at td_X12_init 134 rfl) (by decide) ?_
  refine lv_bipush (v := (101 : Int32)) C.1 C.2.1 (dd_at td_X12_init 135 rfl) (by decide) ?_
  refine nn_ast C hM (t0 := 0) rfl (by decide) (dd_at td_X12_init 136 rfl) (fun H locs hM => ?_)
  refine lv_dup C.1 C.2.1 (dd_at td_X12_init 137 rfl) rfl ?_
  refine lv_bipush (v := (12 : Int32)) C.1 C.2.1 (dd_at td_X12_init 138 rfl) (by decide) ?_
  refine lv_bipush (v := (112 : Int32)) C.1 C.2.1 (dd_at td_X12_init 139 rfl) (by decide) ?_
  refine nn_ast C hM (t0 := 0) rfl (by decide) (dd_at td_X12_init 140 rfl) (fun H locs hM => ?_)
  refine nn_putF C hM (K := RX12) (T := TX12) (k := 24) (ty0 := tyX12) rfl nn_Win tyX12_ok nmX12 (Nat.le_of_ble_eq_true rfl) nw28 rfl rfl rfl rfl rfl (dd_at td_X12_init 141 rfl) (fun H locs hM => ?_)
  refine lv_aload_n C.1 C.2.1 (dd_at td_X12_init 142 rfl) rfl (lv_at hl 0 rfl) ?_
  refine lv_bipush (v := (100 : Int32)) C.1 C.2.1 (dd_at td_X12_init 143 rfl) (by decide) ?_
  refine nn_arr (ty := .boolean) C hM (atype := .boolean) (t0 := 1) (c0 := (cs.2.1)) (N' := 100) (100, .inl (fun _ => 0)) nw29 rfl rfl nn_uZ (fun _ => rfl) (by decide) rfl (Nat.le_of_ble_eq_true rfl) (Nat.le_of_ble_eq_true rfl) (Nat.le_of_ble_eq_true rfl) (dd_at td_X12_init 144 rfl) (fun q13 H hM => ?_)
  refine nn_putF C hM (K := RX12) (T := TX12) (k := 25) (ty0 := tyX12) rfl nn_Win tyX12_ok nmX12 (Nat.le_of_ble_eq_true rfl) nw30 rfl rfl rfl rfl rfl (dd_at td_X12_init 145 rfl) (fun H locs hM => ?_)
  refine lv_aload_n C.1 C.2.1 (dd_at td_X12_init 146 rfl) rfl (lv_at hl 0 rfl) ?_
  refine lv_bipush (v := (90 : Int32)) C.1 C.2.1 (dd_at td_X12_init 147 rfl) (by decide) ?_
  refine nn_arr (ty := .long) C hM (atype := .long) (t0 := 2) (c0 := (cs.2.2)) (N' := 90) (90, .inr (.inl (fun _ => 0))) nw31 rfl rfl nn_uJ (fun _ => rfl) (by decide) rfl (Nat.le_of_ble_eq_true rfl) (Nat.le_of_ble_eq_true rfl) (Nat.le_of_ble_eq_true rfl) (dd_at td_X12_init 148 rfl) (fun q14 H hM => ?_)
  refine nn_putF C hM (K := RX12) (T := TX12) (k := 26) (ty0 := tyX12) rfl nn_Win tyX12_ok nmX12 (Nat.le_of_ble_eq_true rfl) nw32 rfl rfl rfl rfl rfl (dd_at td_X12_init 149 rfl) (fun H locs hM => ?_)
  refine lv_aload_n C.1 C.2.1 (dd_at td_X12_init 150 rfl) rfl (lv_at hl 0 rfl) ?_
  refine lv_iconst (v := (0 : Int32)) C.1 C.2.1 (dd_at td_X12_init 151 rfl) (by decide) ?_
  refine nn_put C hM (ref := RX12) (K := RX12) (T := TX12) (k := 27) (ty0 := tyX12) rfl nn_Win tyX12_ok nmX12 (Nat.le_of_ble_eq_true rfl) nw33 rfl rfl rfl rfl (dd_at td_X12_init 152 rfl) (fun H locs hM => ?_)
  refine lv_aload_n C.1 C.2.1 (dd_at td_X12_init 153 rfl) rfl (lv_at hl 0 rfl) ?_
  refine lv_bipush (v := (90 : Int32)) C.1 C.2.1 (dd_at td_X12_init 154 rfl) (by decide) ?_
  refine nn_arr (ty := .long) C hM (atype := .long) (t0 := 2) (c0 := (cs.2.2)) (N' := 90) (90, .inr (.inl (fun _ => 0))) nw31 rfl rfl nn_uJ (fun _ => rfl) (by decide) rfl (Nat.le_of_ble_eq_true rfl) (Nat.le_of_ble_eq_true rfl) (Nat.le_of_ble_eq_true rfl) (dd_at td_X12_init 155 rfl) (fun q15 H hM => ?_)
  refine nn_putF C hM (K := RX12) (T := TX12) (k := 28) (ty0 := tyX12) rfl nn_Win tyX12_ok nmX12 (Nat.le_of_ble_eq_true rfl) nw34 rfl rfl rfl rfl rfl (dd_at td_X12_init 156 rfl) (fun H locs hM => ?_)
  refine lv_aload_n C.1 C.2.1 (dd_at td_X12_init 157 rfl) rfl (lv_at hl 0 rfl) ?_
  refine lv_iconst (v := (0 : Int32)) C.1 C.2.1 (dd_at td_X12_init 158 rfl) (by decide) ?_
  refine nn_put C hM (ref := RX12) (K := RX12) (T := TX12) (k := 29) (ty0 := tyX12) rfl nn_Win tyX12_ok nmX12 (Nat.le_of_ble_eq_true rfl) nw35 rfl rfl rfl rfl (dd_at td_X12_init 159 rfl) (fun H locs hM => ?_)
  refine lv_aload_n C.1 C.2.1 (dd_at td_X12_init 160 rfl) rfl (lv_at hl 0 rfl) ?_
  refine lv_bipush (v := (8 : Int32)) C.1 C.2.1 (dd_at td_X12_init 161 rfl) (by decide) ?_
  refine nn_arr (ty := .int) C hM (atype := .int) (t0 := 0) (c0 := (cs.1)) (N' := 8) (8, .inl (fun _ => 0)) nw7 rfl rfl nn_uI (fun _ => rfl) (by decide) rfl (Nat.le_of_ble_eq_true rfl) (Nat.le_of_ble_eq_true rfl) (Nat.le_of_ble_eq_true rfl) (dd_at td_X12_init 162 rfl) (fun q16 H hM => ?_)
  refine nn_putF C hM (K := RX12) (T := TX12) (k := 30) (ty0 := tyX12) rfl nn_Win tyX12_ok nmX12 (Nat.le_of_ble_eq_true rfl) nw36 rfl rfl rfl rfl rfl (dd_at td_X12_init 163 rfl) (fun H locs hM => ?_)
  refine lv_aload_n C.1 C.2.1 (dd_at td_X12_init 164 rfl) rfl (lv_at hl 0 rfl) ?_
  refine lv_iconst (v := (0 : Int32)) C.1 C.2.1 (dd_at td_X12_init 165 rfl) (by decide) ?_
  refine nn_put C hM (ref := RX12) (K := RX12) (T := TX12) (k := 31) (ty0 := tyX12) rfl nn_Win tyX12_ok nmX12 (Nat.le_of_ble_eq_true rfl) nw37 rfl rfl rfl rfl (dd_at td_X12_init 166 rfl) (fun H locs hM => ?_)
  refine lv_aload_n C.1 C.2.1 (dd_at td_X12_init 167 rfl) rfl (lv_at hl 0 rfl) ?_
  refine lv_iconst (v := (0 : Int32)) C.1 C.2.1 (dd_at td_X12_init 168 rfl) (by decide) ?_
  refine nn_put C hM (ref := RX12) (K := RX12) (T := TX12) (k := 32) (ty0 := tyX12) rfl nn_Win tyX12_ok nmX12 (Nat.le_of_ble_eq_true rfl) nw38 rfl rfl rfl rfl (dd_at td_X12_init 169 rfl) (fun H locs hM => ?_)
  refine lv_aload_n C.1 C.2.1 (dd_at td_X12_init 170 rfl) rfl (lv_at hl 0 rfl) ?_
  refine lv_iconst (v := (5 : Int32)) C.1 C.2.1 (dd_at td_X12_init 171 rfl) (by decide) ?_
  refine nn_arr (ty := .int) C hM (atype := .int) (t0 := 0) (c0 := (cs.1)) (N' := 5) (5, .inl (fun _ => 0)) nw7 rfl rfl nn_uI (fun _ => rfl) (by decide) rfl (Nat.le_of_ble_eq_true rfl) (Nat.le_of_ble_eq_true rfl) (Nat.le_of_ble_eq_true rfl) (dd_at td_X12_init 172 rfl) (fun q17 H hM => ?_)
  refine nn_putF C hM (K := RX12) (T := TX12) (k := 33) (ty0 := tyX12) rfl nn_Win tyX12_ok nmX12 (Nat.le_of_ble_eq_true rfl) nw39 rfl rfl rfl rfl rfl (dd_at td_X12_init 173 rfl) (fun H locs hM => ?_)
  refine lv_aload_n C.1 C.2.1 (dd_at td_X12_init 174 rfl) rfl (lv_at hl 0 rfl) ?_
  refine lv_iconst (v := (5 : Int32)) C.1 C.2.1 (dd_at td_X12_init 175 rfl) (by decide) ?_
  refine nn_arr (ty := .int) C hM (atype := .int) (t0 := 0) (c0 := (cs.1)) (N' := 5) (5, .inl (fun _ => 0)) nw7 rfl rfl nn_uI (fun _ => rfl) (by decide) rfl (Nat.le_of_ble_eq_true rfl) (Nat.le_of_ble_eq_true rfl) (Nat.le_of_ble_eq_true rfl) (dd_at td_X12_init 176 rfl) (fun q18 H hM => ?_)
  refine nn_putF C hM (K := RX12) (T := TX12) (k := 34) (ty0 := tyX12) rfl nn_Win tyX12_ok nmX12 (Nat.le_of_ble_eq_true rfl) nw40 rfl rfl rfl rfl rfl (dd_at td_X12_init 177 rfl) (fun H locs hM => ?_)
  refine lv_aload_n C.1 C.2.1 (dd_at td_X12_init 178 rfl) rfl (lv_at hl 0 rfl) ?_
  refine lv_iconst (v := (5 : Int32)) C.1 C.2.1 (dd_at td_X12_init 179 rfl) (by decide) ?_
  refine nn_arr (ty := .int) C hM (atype := .int) (t0 := 0) (c0 := (cs.1)) (N' := 5) (5, .inl (fun _ => 0)) nw7 rfl rfl nn_uI (fun _ => rfl) (by decide) rfl (Nat.le_of_ble_eq_true rfl) (Nat.le_of_ble_eq_true rfl) (Nat.le_of_ble_eq_true rfl) (dd_at td_X12_init 180 rfl) (fun q19 H hM => ?_)
  refine nn_putF C hM (K := RX12) (T := TX12) (k := 35) (ty0 := tyX12) rfl nn_Win tyX12_ok nmX12 (Nat.le_of_ble_eq_true rfl) nw41 rfl rfl rfl rfl rfl (dd_at td_X12_init 181 rfl) (fun H locs hM => ?_)
  refine lv_aload_n C.1 C.2.1 (dd_at td_X12_init 182 rfl) rfl (lv_at hl 0 rfl) ?_
  refine lv_bipush (v := (8 : Int32)) C.1 C.2.1 (dd_at td_X12_init 183 rfl) (by decide) ?_
  refine nn_arr (ty := .int) C hM (atype := .int) (t0 := 0) (c0 := (cs.1)) (N' := 8) (8, .inl (fun _ => 0)) nw7 rfl rfl nn_uI (fun _ => rfl) (by decide) rfl (Nat.le_of_ble_eq_true rfl) (Nat.le_of_ble_eq_true rfl) (Nat.le_of_ble_eq_true rfl) (dd_at td_X12_init 184 rfl) (fun q20 H hM => ?_)
  refine nn_putF C hM (K := RX12) (T := TX12) (k := 36) (ty0 := tyX12) rfl nn_Win tyX12_ok nmX12 (Nat.le_of_ble_eq_true rfl) nw42 rfl rfl rfl rfl rfl (dd_at td_X12_init 185 rfl) (fun H locs hM => ?_)
  refine lv_aload_n C.1 C.2.1 (dd_at td_X12_init 186 rfl) rfl (lv_at hl 0 rfl) ?_
  refine lv_bipush (v := (8 : Int32)) C.1 C.2.1 (dd_at td_X12_init 187 rfl) (by decide) ?_
  refine nn_arr (ty := .int) C hM (atype := .int) (t0 := 0) (c0 := (cs.1)) (N' := 8) (8, .inl (fun _ => 0)) nw7 rfl rfl nn_uI (fun _ => rfl) (by decide) rfl (Nat.le_of_ble_eq_true rfl) (Nat.le_of_ble_eq_true rfl) (Nat.le_of_ble_eq_true rfl) (dd_at td_X12_init 188 rfl) (fun q21 H hM => ?_)
  refine nn_putF C hM (K := RX12) (T := TX12) (k := 37) (ty0 := tyX12) rfl nn_Win tyX12_ok nmX12 (Nat.le_of_ble_eq_true rfl) nw43 rfl rfl rfl rfl rfl (dd_at td_X12_init 189 rfl) (fun H locs hM => ?_)
  refine lv_aload_n C.1 C.2.1 (dd_at td_X12_init 190 rfl) rfl (lv_at hl 0 rfl) ?_
  refine lv_iconst (v := (0 : Int32)) C.1 C.2.1 (dd_at td_X12_init 191 rfl) (by decide) ?_
  refine nn_put C hM (ref := RX12) (K := RX12) (T := TX12) (k := 38) (ty0 := tyX12) rfl nn_Win tyX12_ok nmX12 (Nat.le_of_ble_eq_true rfl) nw44 rfl rfl rfl rfl (dd_at td_X12_init 192 rfl) (fun H locs hM => ?_)
  refine lv_aload_n C.1 C.2.1 (dd_at td_X12_init 193 rfl) rfl (lv_at hl 0 rfl) ?_
  refine lv_iconst (v := (-1 : Int32)) C.1 C.2.1 (dd_at td_X12_init 194 rfl) (by decide) ?_
  refine nn_put C hM (ref := RX12) (K := RX12) (T := TX12) (k := 39) (ty0 := tyX12) rfl nn_Win tyX12_ok nmX12 (Nat.le_of_ble_eq_true rfl) nw45 rfl rfl rfl rfl (dd_at td_X12_init 195 rfl) (fun H locs hM => ?_)
  refine lv_aload_n C.1 C.2.1 (dd_at td_X12_init 196 rfl) rfl (lv_at hl 0 rfl) ?_
  refine lv_iconst (v := (0 : Int32)) C.1 C.2.1 (dd_at td_X12_init 197 rfl) (by decide) ?_
  refine nn_put C hM (ref := RX12) (K := RX12) (T := TX12) (k := 40) (ty0 := tyX12) rfl nn_Win tyX12_ok nmX12 (Nat.le_of_ble_eq_true rfl) nw46 rfl rfl rfl rfl (dd_at td_X12_init 198 rfl) (fun H locs hM => ?_)
  refine lv_aload_n C.1 C.2.1 (dd_at td_X12_init 199 rfl) rfl (lv_at hl 0 rfl) ?_
  refine lv_iconst (v := (0 : Int32)) C.1 C.2.1 (dd_at td_X12_init 200 rfl) (by decide) ?_
  refine nn_put C hM (ref := RX12) (K := RX12) (T := TX12) (k := 41) (ty0 := tyX12) rfl nn_Win tyX12_ok nmX12 (Nat.le_of_ble_eq_true rfl) nw47 rfl rfl rfl rfl (dd_at td_X12_init 201 rfl) (fun H locs hM => ?_)
  refine lv_aload_n C.1 C.2.1 (dd_at td_X12_init 202 rfl) rfl (lv_at hl 0 rfl) ?_
  refine lv_iconst (v := (0 : Int32)) C.1 C.2.1 (dd_at td_X12_init 203 rfl) (by decide) ?_
  refine nn_put C hM (ref := RX12) (K := RX12) (T := TX12) (k := 42) (ty0 := tyX12) rfl nn_Win tyX12_ok nmX12 (Nat.le_of_ble_eq_true rfl) nw48 rfl rfl rfl rfl (dd_at td_X12_init 204 rfl) (fun H locs hM => ?_)
  refine lv_aload_n C.1 C.2.1 (dd_at td_X12_init 205 rfl) rfl (lv_at hl 0 rfl) ?_
  refine lv_iconst (v := (0 : Int32)) C.1 C.2.1 (dd_at td_X12_init 206 rfl) (by decide) ?_
  refine nn_put C hM (ref := RX12) (K := RX12) (T := TX12) (k := 43) (ty0 := tyX12) rfl nn_Win tyX12_ok nmX12 (Nat.le_of_ble_eq_true rfl) nw49 rfl rfl rfl rfl (dd_at td_X12_init 207 rfl) (fun H locs hM => ?_)
  refine lv_aload_n C.1 C.2.1 (dd_at td_X12_init 208 rfl) rfl (lv_at hl 0 rfl) ?_
  refine lv_iconst (v := (0 : Int32)) C.1 C.2.1 (dd_at td_X12_init 209 rfl) (by decide) ?_
  refine nn_put C hM (ref := RX12) (K := RX12) (T := TX12) (k := 44) (ty0 := tyX12) rfl nn_Win tyX12_ok nmX12 (Nat.le_of_ble_eq_true rfl) nw50 rfl rfl rfl rfl (dd_at td_X12_init 210 rfl) (fun H locs hM => ?_)
  refine lv_aload_n C.1 C.2.1 (dd_at td_X12_init 211 rfl) rfl (lv_at hl 0 rfl) ?_
  refine lv_iconst (v := (0 : Int32)) C.1 C.2.1 (dd_at td_X12_init 212 rfl) (by decide) ?_
  refine nn_put C hM (ref := RX12) (K := RX12) (T := TX12) (k := 45) (ty0 := tyX12) rfl nn_Win tyX12_ok nmX12 (Nat.le_of_ble_eq_true rfl) nw51 rfl rfl rfl rfl (dd_at td_X12_init 213 rfl) (fun H locs hM => ?_)
  refine lv_aload_n C.1 C.2.1 (dd_at td_X12_init 214 rfl) rfl (lv_at hl 0 rfl) ?_
  refine lv_iconst (v := (0 : Int32)) C.1 C.2.1 (dd_at td_X12_init 215 rfl) (by decide) ?_
  refine nn_put C hM (ref := RX12) (K := RX12) (T := TX12) (k := 46) (ty0 := tyX12) rfl nn_Win tyX12_ok nmX12 (Nat.le_of_ble_eq_true rfl) nw52 rfl rfl rfl rfl (dd_at td_X12_init 216 rfl) (fun H locs hM => ?_)
  refine lv_aload_n C.1 C.2.1 (dd_at td_X12_init 217 rfl) rfl (lv_at hl 0 rfl) ?_
  refine lv_bipush (v := (6 : Int32)) C.1 C.2.1 (dd_at td_X12_init 218 rfl) (by decide) ?_
  refine nn_arr (ty := .int) C hM (atype := .int) (t0 := 0) (c0 := (cs.1)) (N' := 6) (6, .inl (fun _ => 0)) nw7 rfl rfl nn_uI (fun _ => rfl) (by decide) rfl (Nat.le_of_ble_eq_true rfl) (Nat.le_of_ble_eq_true rfl) (Nat.le_of_ble_eq_true rfl) (dd_at td_X12_init 219 rfl) (fun q22 H hM => ?_)
  refine nn_putF C hM (K := RX12) (T := TX12) (k := 47) (ty0 := tyX12) rfl nn_Win tyX12_ok nmX12 (Nat.le_of_ble_eq_true rfl) nw53 rfl rfl rfl rfl rfl (dd_at td_X12_init 220 rfl) (fun H locs hM => ?_)
  refine lv_aload_n C.1 C.2.1 (dd_at td_X12_init 221 rfl) rfl (lv_at hl 0 rfl) ?_
  refine lv_bipush (v := (6 : Int32)) C.1 C.2.1 (dd_at td_X12_init 222 rfl) (by decide) ?_
  refine nn_arr (ty := .int) C hM (atype := .int) (t0 := 0) (c0 := (cs.1)) (N' := 6) (6, .inl (fun _ => 0)) nw7 rfl rfl nn_uI (fun _ => rfl) (by decide) rfl (Nat.le_of_ble_eq_true rfl) (Nat.le_of_ble_eq_true rfl) (Nat.le_of_ble_eq_true rfl) (dd_at td_X12_init 223 rfl) (fun q23 H hM => ?_)
  refine nn_putF C hM (K := RX12) (T := TX12) (k := 48) (ty0 := tyX12) rfl nn_Win tyX12_ok nmX12 (Nat.le_of_ble_eq_true rfl) nw54 rfl rfl rfl rfl rfl (dd_at td_X12_init 224 rfl) (fun H locs hM => ?_)
  refine lv_aload_n C.1 C.2.1 (dd_at td_X12_init 225 rfl) rfl (lv_at hl 0 rfl) ?_
  refine lv_bipush (v := (6 : Int32)) C.1 C.2.1 (dd_at td_X12_init 226 rfl) (by decide) ?_
  refine nn_arr (ty := .int) C hM (atype := .int) (t0 := 0) (c0 := (cs.1)) (N' := 6) (6, .inl (fun _ => 0)) nw7 rfl rfl nn_uI (fun _ => rfl) (by decide) rfl (Nat.le_of_ble_eq_true rfl) (Nat.le_of_ble_eq_true rfl) (Nat.le_of_ble_eq_true rfl) (dd_at td_X12_init 227 rfl) (fun q24 H hM => ?_)
  refine nn_putF C hM (K := RX12) (T := TX12) (k := 49) (ty0 := tyX12) rfl nn_Win tyX12_ok nmX12 (Nat.le_of_ble_eq_true rfl) nw55 rfl rfl rfl rfl rfl (dd_at td_X12_init 228 rfl) (fun H locs hM => ?_)
  refine lv_aload_n C.1 C.2.1 (dd_at td_X12_init 229 rfl) rfl (lv_at hl 0 rfl) ?_
  refine lv_bipush (v := (24 : Int32)) C.1 C.2.1 (dd_at td_X12_init 230 rfl) (by decide) ?_
  refine nn_arr (ty := .int) C hM (atype := .int) (t0 := 0) (c0 := (cs.1)) (N' := 24) (24, .inl (fun _ => 0)) nw7 rfl rfl nn_uI (fun _ => rfl) (by decide) rfl (Nat.le_of_ble_eq_true rfl) (Nat.le_of_ble_eq_true rfl) (Nat.le_of_ble_eq_true rfl) (dd_at td_X12_init 231 rfl) (fun q25 H hM => ?_)
  refine nn_putF C hM (K := RX12) (T := TX12) (k := 50) (ty0 := tyX12) rfl nn_Win tyX12_ok nmX12 (Nat.le_of_ble_eq_true rfl) nw56 rfl rfl rfl rfl rfl (dd_at td_X12_init 232 rfl) (fun H locs hM => ?_)
  refine lv_aload_n C.1 C.2.1 (dd_at td_X12_init 233 rfl) rfl (lv_at hl 0 rfl) ?_
  refine lv_bipush (v := (8 : Int32)) C.1 C.2.1 (dd_at td_X12_init 234 rfl) (by decide) ?_
  refine nn_arr (ty := .int) C hM (atype := .int) (t0 := 0) (c0 := (cs.1)) (N' := 8) (8, .inl (fun _ => 0)) nw7 rfl rfl nn_uI (fun _ => rfl) (by decide) rfl (Nat.le_of_ble_eq_true rfl) (Nat.le_of_ble_eq_true rfl) (Nat.le_of_ble_eq_true rfl) (dd_at td_X12_init 235 rfl) (fun q26 H hM => ?_)
  refine nn_putF C hM (K := RX12) (T := TX12) (k := 51) (ty0 := tyX12) rfl nn_Win tyX12_ok nmX12 (Nat.le_of_ble_eq_true rfl) nw57 rfl rfl rfl rfl rfl (dd_at td_X12_init 236 rfl) (fun H locs hM => ?_)
  refine lv_aload_n C.1 C.2.1 (dd_at td_X12_init 237 rfl) rfl (lv_at hl 0 rfl) ?_
  refine lv_iconst (v := (5 : Int32)) C.1 C.2.1 (dd_at td_X12_init 238 rfl) (by decide) ?_
  refine nn_arr (ty := .int) C hM (atype := .int) (t0 := 0) (c0 := (cs.1)) (N' := 5) (5, .inl (fun _ => 0)) nw7 rfl rfl nn_uI (fun _ => rfl) (by decide) rfl (Nat.le_of_ble_eq_true rfl) (Nat.le_of_ble_eq_true rfl) (Nat.le_of_ble_eq_true rfl) (dd_at td_X12_init 239 rfl) (fun q27 H hM => ?_)
  refine nn_putF C hM (K := RX12) (T := TX12) (k := 52) (ty0 := tyX12) rfl nn_Win tyX12_ok nmX12 (Nat.le_of_ble_eq_true rfl) nw58 rfl rfl rfl rfl rfl (dd_at td_X12_init 240 rfl) (fun H locs hM => ?_)
  refine lv_aload_n C.1 C.2.1 (dd_at td_X12_init 241 rfl) rfl (lv_at hl 0 rfl) ?_
  refine lv_iconst (v := (5 : Int32)) C.1 C.2.1 (dd_at td_X12_init 242 rfl) (by decide) ?_
  refine nn_arr (ty := .int) C hM (atype := .int) (t0 := 0) (c0 := (cs.1)) (N' := 5) (5, .inl (fun _ => 0)) nw7 rfl rfl nn_uI (fun _ => rfl) (by decide) rfl (Nat.le_of_ble_eq_true rfl) (Nat.le_of_ble_eq_true rfl) (Nat.le_of_ble_eq_true rfl) (dd_at td_X12_init 243 rfl) (fun q28 H hM => ?_)
  refine nn_putF C hM (K := RX12) (T := TX12) (k := 53) (ty0 := tyX12) rfl nn_Win tyX12_ok nmX12 (Nat.le_of_ble_eq_true rfl) nw59 rfl rfl rfl rfl rfl (dd_at td_X12_init 244 rfl) (fun H locs hM => ?_)
  refine lv_aload_n C.1 C.2.1 (dd_at td_X12_init 245 rfl) rfl (lv_at hl 0 rfl) ?_
  refine lv_iconst (v := (5 : Int32)) C.1 C.2.1 (dd_at td_X12_init 246 rfl) (by decide) ?_
  refine nn_arr (ty := .int) C hM (atype := .int) (t0 := 0) (c0 := (cs.1)) (N' := 5) (5, .inl (fun _ => 0)) nw7 rfl rfl nn_uI (fun _ => rfl) (by decide) rfl (Nat.le_of_ble_eq_true rfl) (Nat.le_of_ble_eq_true rfl) (Nat.le_of_ble_eq_true rfl) (dd_at td_X12_init 247 rfl) (fun q29 H hM => ?_)
  refine nn_putF C hM (K := RX12) (T := TX12) (k := 54) (ty0 := tyX12) rfl nn_Win tyX12_ok nmX12 (Nat.le_of_ble_eq_true rfl) nw60 rfl rfl rfl rfl rfl (dd_at td_X12_init 248 rfl) (fun H locs hM => ?_)
  refine lv_aload_n C.1 C.2.1 (dd_at td_X12_init 249 rfl) rfl (lv_at hl 0 rfl) ?_
  refine lv_bipush (v := (8 : Int32)) C.1 C.2.1 (dd_at td_X12_init 250 rfl) (by decide) ?_
  refine nn_arr (ty := .int) C hM (atype := .int) (t0 := 0) (c0 := (cs.1)) (N' := 8) (8, .inl (fun _ => 0)) nw7 rfl rfl nn_uI (fun _ => rfl) (by decide) rfl (Nat.le_of_ble_eq_true rfl) (Nat.le_of_ble_eq_true rfl) (Nat.le_of_ble_eq_true rfl) (dd_at td_X12_init 251 rfl) (fun q30 H hM => ?_)
  refine nn_putF C hM (K := RX12) (T := TX12) (k := 55) (ty0 := tyX12) rfl nn_Win tyX12_ok nmX12 (Nat.le_of_ble_eq_true rfl) nw61 rfl rfl rfl rfl rfl (dd_at td_X12_init 252 rfl) (fun H locs hM => ?_)
  refine lv_aload_n C.1 C.2.1 (dd_at td_X12_init 253 rfl) rfl (lv_at hl 0 rfl) ?_
  refine lv_bipush (v := (8 : Int32)) C.1 C.2.1 (dd_at td_X12_init 254 rfl) (by decide) ?_
  refine nn_arr (ty := .int) C hM (atype := .int) (t0 := 0) (c0 := (cs.1)) (N' := 8) (8, .inl (fun _ => 0)) nw7 rfl rfl nn_uI (fun _ => rfl) (by decide) rfl (Nat.le_of_ble_eq_true rfl) (Nat.le_of_ble_eq_true rfl) (Nat.le_of_ble_eq_true rfl) (dd_at td_X12_init 255 rfl) (fun q31 H hM => ?_)
  refine nn_putF C hM (K := RX12) (T := TX12) (k := 56) (ty0 := tyX12) rfl nn_Win tyX12_ok nmX12 (Nat.le_of_ble_eq_true rfl) nw62 rfl rfl rfl rfl rfl (dd_at td_X12_init 256 rfl) (fun H locs hM => ?_)
  refine lv_aload_n C.1 C.2.1 (dd_at td_X12_init 257 rfl) rfl (lv_at hl 0 rfl) ?_
  refine lv_iconst (v := (0 : Int32)) C.1 C.2.1 (dd_at td_X12_init 258 rfl) (by decide) ?_
  refine nn_put C hM (ref := RX12) (K := RX12) (T := TX12) (k := 57) (ty0 := tyX12) rfl nn_Win tyX12_ok nmX12 (Nat.le_of_ble_eq_true rfl) nw63 rfl rfl rfl rfl (dd_at td_X12_init 259 rfl) (fun H locs hM => ?_)
  refine lv_aload_n C.1 C.2.1 (dd_at td_X12_init 260 rfl) rfl (lv_at hl 0 rfl) ?_
  refine lv_bipush (v := (20 : Int32)) C.1 C.2.1 (dd_at td_X12_init 261 rfl) (by decide) ?_
  refine nn_arr (ty := .int) C hM (atype := .int) (t0 := 0) (c0 := (cs.1)) (N' := 20) (20, .inl (fun _ => 0)) nw7 rfl rfl nn_uI (fun _ => rfl) (by decide) rfl (Nat.le_of_ble_eq_true rfl) (Nat.le_of_ble_eq_true rfl) (Nat.le_of_ble_eq_true rfl) (dd_at td_X12_init 262 rfl) (fun q32 H hM => ?_)
  refine nn_putF C hM (K := RX12) (T := TX12) (k := 58) (ty0 := tyX12) rfl nn_Win tyX12_ok nmX12 (Nat.le_of_ble_eq_true rfl) nw64 rfl rfl rfl rfl rfl (dd_at td_X12_init 263 rfl) (fun H locs hM => ?_)
  refine lv_aload_n C.1 C.2.1 (dd_at td_X12_init 264 rfl) rfl (lv_at hl 0 rfl) ?_
  refine lv_bipush (v := (6 : Int32)) C.1 C.2.1 (dd_at td_X12_init 265 rfl) (by decide) ?_
  refine nn_arr (ty := .int) C hM (atype := .int) (t0 := 0) (c0 := (cs.1)) (N' := 6) (6, .inl (fun _ => 0)) nw7 rfl rfl nn_uI (fun _ => rfl) (by decide) rfl (Nat.le_of_ble_eq_true rfl) (Nat.le_of_ble_eq_true rfl) (Nat.le_of_ble_eq_true rfl) (dd_at td_X12_init 266 rfl) (fun q33 H hM => ?_)
  refine lv_dup C.1 C.2.1 (dd_at td_X12_init 267 rfl) rfl ?_
  refine lv_iconst (v := (0 : Int32)) C.1 C.2.1 (dd_at td_X12_init 268 rfl) (by decide) ?_
  refine lv_iconst (v := (-1 : Int32)) C.1 C.2.1 (dd_at td_X12_init 269 rfl) (by decide) ?_
  refine nn_ast C hM (t0 := 0) rfl (by decide) (dd_at td_X12_init 270 rfl) (fun H locs hM => ?_)
  refine lv_dup C.1 C.2.1 (dd_at td_X12_init 271 rfl) rfl ?_
  refine lv_iconst (v := (1 : Int32)) C.1 C.2.1 (dd_at td_X12_init 272 rfl) (by decide) ?_
  refine lv_iconst (v := (-1 : Int32)) C.1 C.2.1 (dd_at td_X12_init 273 rfl) (by decide) ?_
  refine nn_ast C hM (t0 := 0) rfl (by decide) (dd_at td_X12_init 274 rfl) (fun H locs hM => ?_)
  refine lv_dup C.1 C.2.1 (dd_at td_X12_init 275 rfl) rfl ?_
  refine lv_iconst (v := (2 : Int32)) C.1 C.2.1 (dd_at td_X12_init 276 rfl) (by decide) ?_
  refine lv_iconst (v := (-1 : Int32)) C.1 C.2.1 (dd_at td_X12_init 277 rfl) (by decide) ?_
  refine nn_ast C hM (t0 := 0) rfl (by decide) (dd_at td_X12_init 278 rfl) (fun H locs hM => ?_)
  refine lv_dup C.1 C.2.1 (dd_at td_X12_init 279 rfl) rfl ?_
  refine lv_iconst (v := (3 : Int32)) C.1 C.2.1 (dd_at td_X12_init 280 rfl) (by decide) ?_
  refine lv_iconst (v := (-1 : Int32)) C.1 C.2.1 (dd_at td_X12_init 281 rfl) (by decide) ?_
  refine nn_ast C hM (t0 := 0) rfl (by decide) (dd_at td_X12_init 282 rfl) (fun H locs hM => ?_)
  refine lv_dup C.1 C.2.1 (dd_at td_X12_init 283 rfl) rfl ?_
  refine lv_iconst (v := (4 : Int32)) C.1 C.2.1 (dd_at td_X12_init 284 rfl) (by decide) ?_
  refine lv_iconst (v := (-1 : Int32)) C.1 C.2.1 (dd_at td_X12_init 285 rfl) (by decide) ?_
  refine nn_ast C hM (t0 := 0) rfl (by decide) (dd_at td_X12_init 286 rfl) (fun H locs hM => ?_)
  refine lv_dup C.1 C.2.1 (dd_at td_X12_init 287 rfl) rfl ?_
  refine lv_iconst (v := (5 : Int32)) C.1 C.2.1 (dd_at td_X12_init 288 rfl) (by decide) ?_
  refine lv_iconst (v := (-1 : Int32)) C.1 C.2.1 (dd_at td_X12_init 289 rfl) (by decide) ?_
  refine nn_ast C hM (t0 := 0) rfl (by decide) (dd_at td_X12_init 290 rfl) (fun H locs hM => ?_)
  refine nn_putF C hM (K := RX12) (T := TX12) (k := 59) (ty0 := tyX12) rfl nn_Win tyX12_ok nmX12 (Nat.le_of_ble_eq_true rfl) nw65 rfl rfl rfl rfl rfl (dd_at td_X12_init 291 rfl) (fun H locs hM => ?_)
  refine lv_aload_n C.1 C.2.1 (dd_at td_X12_init 292 rfl) rfl (lv_at hl 0 rfl) ?_
  refine lv_bipush (v := (6 : Int32)) C.1 C.2.1 (dd_at td_X12_init 293 rfl) (by decide) ?_
  refine nn_arr (ty := .int) C hM (atype := .int) (t0 := 0) (c0 := (cs.1)) (N' := 6) (6, .inl (fun _ => 0)) nw7 rfl rfl nn_uI (fun _ => rfl) (by decide) rfl (Nat.le_of_ble_eq_true rfl) (Nat.le_of_ble_eq_true rfl) (Nat.le_of_ble_eq_true rfl) (dd_at td_X12_init 294 rfl) (fun q34 H hM => ?_)
  refine nn_putF C hM (K := RX12) (T := TX12) (k := 60) (ty0 := tyX12) rfl nn_Win tyX12_ok nmX12 (Nat.le_of_ble_eq_true rfl) nw66 rfl rfl rfl rfl rfl (dd_at td_X12_init 295 rfl) (fun H locs hM => ?_)
  refine lv_aload_n C.1 C.2.1 (dd_at td_X12_init 296 rfl) rfl (lv_at hl 0 rfl) ?_
  refine lv_sipush (v := (360 : Int32)) C.1 C.2.1 (dd_at td_X12_init 297 rfl) (by decide) ?_
  refine nn_arr (ty := .long) C hM (atype := .long) (t0 := 2) (c0 := (cs.2.2)) (N' := 360) (360, .inr (.inl (fun _ => 0))) nw31 rfl rfl nn_uJ (fun _ => rfl) (by decide) rfl (Nat.le_of_ble_eq_true rfl) (Nat.le_of_ble_eq_true rfl) (Nat.le_of_ble_eq_true rfl) (dd_at td_X12_init 298 rfl) (fun q35 H hM => ?_)
  refine nn_putF C hM (K := RX12) (T := TX12) (k := 61) (ty0 := tyX12) rfl nn_Win tyX12_ok nmX12 (Nat.le_of_ble_eq_true rfl) nw67 rfl rfl rfl rfl rfl (dd_at td_X12_init 299 rfl) (fun H locs hM => ?_)
  refine lv_aload_n C.1 C.2.1 (dd_at td_X12_init 300 rfl) rfl (lv_at hl 0 rfl) ?_
  refine lv_bipush (v := (60 : Int32)) C.1 C.2.1 (dd_at td_X12_init 301 rfl) (by decide) ?_
  refine nn_arr (ty := .long) C hM (atype := .long) (t0 := 2) (c0 := (cs.2.2)) (N' := 60) (60, .inr (.inl (fun _ => 0))) nw31 rfl rfl nn_uJ (fun _ => rfl) (by decide) rfl (Nat.le_of_ble_eq_true rfl) (Nat.le_of_ble_eq_true rfl) (Nat.le_of_ble_eq_true rfl) (dd_at td_X12_init 302 rfl) (fun q36 H hM => ?_)
  refine nn_putF C hM (K := RX12) (T := TX12) (k := 62) (ty0 := tyX12) rfl nn_Win tyX12_ok nmX12 (Nat.le_of_ble_eq_true rfl) nw68 rfl rfl rfl rfl rfl (dd_at td_X12_init 303 rfl) (fun H locs hM => ?_)
  refine W.widen (k := 37) (n := 1954) (Nat.le_of_ble_eq_true rfl) (Nat.le_of_ble_eq_true rfl) ?_
  exact nn_vr C hM ⟨fun k => if k = 4 then q0 else if k = 5 then q1 else if k = 6 then q2 else if k = 7 then q3 else if k = 13 then q4 else if k = 14 then q5 else if k = 15 then q6 else if k = 16 then q7 else if k = 17 then q8 else if k = 18 then q9 else if k = 19 then q10 else if k = 20 then q11 else if k = 24 then q12 else if k = 25 then q13 else if k = 26 then q14 else if k = 28 then q15 else if k = 30 then q16 else if k = 33 then q17 else if k = 34 then q18 else if k = 35 then q19 else if k = 36 then q20 else if k = 37 then q21 else if k = 47 then q22 else if k = 48 then q23 else if k = 49 then q24 else if k = 50 then q25 else if k = 51 then q26 else if k = 52 then q27 else if k = 53 then q28 else if k = 54 then q29 else if k = 55 then q30 else if k = 56 then q31 else if k = 58 then q32 else if k = 59 then q33 else if k = 60 then q34 else if k = 61 then q35 else if k = 62 then q36 else 0, rfl⟩ (dd_at td_X12_init 304 rfl)
