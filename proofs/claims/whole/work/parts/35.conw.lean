abbrev mX7_init : Mth := (yX7_init, cX7_init, 1, none)
def kX7_init_0 : List (Nat × Instr × Nat) := [(0, .aload_n 0, 1), (1, .invokespecial 3, 3), (4, .aload_n 0, 1), (5, .sipush 2000, 3), (8, .newarray .byte, 2), (10, .putfield 9, 3), (13, .aload_n 0, 1), (14, .iconst 0, 1), (15, .putfield 15, 3), (18, .return_, 1)]
set_option maxRecDepth 100000 in
theorem KX7_init_0 : ∀ q ∈ kX7_init_0, decode cX7_init q.1 = .ok q.2 := by decide +kernel
theorem cbX7_init : CB mX7_init 0 := ⟨tin1 2 rfl rfl, tin1 28 rfl rfl, ⟨by decide, by decide, by decide +kernel⟩, by decide⟩
theorem df7 : ∀ j, j < 2 → defaultValue (tyX 7 j) = if isR 7 j then .null else .int 0 := by decide +kernel
abbrev mX2_init : Mth := (yX2_init, cX2_init, 1, none)
def kX2_init_0 : List (Nat × Instr × Nat) := [(0, .aload_n 0, 1), (1, .invokespecial 3, 3), (4, .aload_n 0, 1), (5, .iconst 0, 1), (6, .putfield 9, 3), (9, .aload_n 0, 1), (10, .bipush 8, 2), (12, .newarray .int, 2), (14, .putfield 15, 3), (17, .aload_n 0, 1), (18, .bipush 8, 2), (20, .newarray .int, 2), (22, .putfield 19, 3), (25, .aload_n 0, 1), (26, .bipush 8, 2), (28, .newarray .int, 2), (30, .putfield 22, 3), (33, .aload_n 0, 1), (34, .bipush 8, 2), (36, .newarray .int, 2), (38, .putfield 25, 3), (41, .aload_n 0, 1), (42, .bipush 8, 2), (44, .iconst 3, 1), (45, .multianewarray 28 2, 4), (49, .putfield 30, 3), (52, .aload_n 0, 1), (53, .iconst 0, 1), (54, .putfield 33, 3), (57, .aload_n 0, 1), (58, .bipush 6, 2), (60, .newarray .int, 2), (62, .putfield 36, 3), (65, .aload_n 0, 1), (66, .bipush 6, 2), (68, .newarray .int, 2), (70, .putfield 39, 3), (73, .aload_n 0, 1), (74, .bipush 6, 2), (76, .newarray .int, 2), (78, .putfield 42, 3), (81, .aload_n 0, 1), (82, .bipush 6, 2), (84, .newarray .int, 2), (86, .putfield 45, 3), (89, .aload_n 0, 1), (90, .bipush 6, 2), (92, .newarray .int, 2), (94, .putfield 48, 3), (97, .aload_n 0, 1), (98, .bipush 6, 2), (100, .newarray .int, 2), (102, .putfield 51, 3), (105, .aload_n 0, 1), (106, .bipush 6, 2), (108, .newarray .int, 2), (110, .putfield 54, 3), (113, .aload_n 0, 1), (114, .iconst 0, 1), (115, .putfield 57, 3)]
set_option maxRecDepth 100000 in
theorem KX2_init_0 : ∀ q ∈ kX2_init_0, decode cX2_init q.1 = .ok q.2 := by decide +kernel
def kX2_init_1 : List (Nat × Instr × Nat) := [(118, .aload_n 0, 1), (119, .bipush 60, 2), (121, .newarray .int, 2), (123, .putfield 60, 3), (126, .return_, 1)]
set_option maxRecDepth 100000 in
theorem KX2_init_1 : ∀ q ∈ kX2_init_1, decode cX2_init q.1 = .ok q.2 := by decide +kernel
theorem cbX2_init : CB mX2_init 0 := ⟨tin1 3 rfl rfl, tin1 44 rfl rfl, ⟨by decide, by decide, by decide +kernel⟩, by decide⟩
theorem df2 : ∀ j, j < 16 → defaultValue (tyX 2 j) = if isR 2 j then .null else .int 0 := by decide +kernel
abbrev mX0_init : Mth := (yX0_init, cX0_init, 1, none)
def kX0_init_0 : List (Nat × Instr × Nat) := [(0, .aload_n 0, 1), (1, .invokespecial 3, 3), (4, .aload_n 0, 1), (5, .iconst 0, 1), (6, .putfield 9, 3), (9, .aload_n 0, 1), (10, .sipush 300, 3), (13, .newarray .int, 2), (15, .putfield 15, 3), (18, .aload_n 0, 1), (19, .sipush 300, 3), (22, .newarray .int, 2), (24, .putfield 19, 3), (27, .aload_n 0, 1), (28, .sipush 300, 3), (31, .newarray .boolean, 2), (33, .putfield 22, 3), (36, .aload_n 0, 1), (37, .bipush 8, 2), (39, .bipush 60, 2), (41, .multianewarray 26 2, 4), (45, .putfield 28, 3), (48, .return_, 1)]
set_option maxRecDepth 100000 in
theorem KX0_init_0 : ∀ q ∈ kX0_init_0, decode cX0_init q.1 = .ok q.2 := by decide +kernel
theorem cbX0_init : CB mX0_init 0 := ⟨tin1 4 rfl rfl, tin1 135 rfl rfl, ⟨by decide, by decide, by decide +kernel⟩, by decide⟩
theorem df0 : ∀ j, j < 5 → defaultValue (tyX 0 j) = if isR 0 j then .null else .int 0 := by decide +kernel
abbrev mX6_init : Mth := (yX6_init, cX6_init, 2, none)
def kX6_init_0 : List (Nat × Instr × Nat) := [(0, .aload_n 0, 1), (1, .invokespecial 3, 3), (4, .aload_n 0, 1), (5, .iconst 0, 1), (6, .putfield 9, 3), (9, .aload_n 0, 1), (10, .iconst 0, 1), (11, .putfield 15, 3), (14, .aload_n 0, 1), (15, .iconst 0, 1), (16, .putfield 18, 3), (19, .aload_n 0, 1), (20, .iconst 0, 1), (21, .putfield 21, 3), (24, .aload_n 0, 1), (25, .aload_n 1, 1), (26, .putfield 24, 3), (29, .return_, 1)]
set_option maxRecDepth 100000 in
theorem KX6_init_0 : ∀ q ∈ kX6_init_0, decode cX6_init q.1 = .ok q.2 := by decide +kernel
theorem cbX6_init : CB mX6_init 1 := ⟨tin1 6 rfl rfl, tin1 167 rfl rfl, ⟨by decide, by decide, by decide +kernel⟩, by decide⟩
theorem df6 : ∀ j, j < 5 → defaultValue (tyX 6 j) = if isR 6 j then .null else .int 0 := by decide +kernel
abbrev mX4_init : Mth := (yX4_init, cX4_init, 2, none)
def kX4_init_0 : List (Nat × Instr × Nat) := [(0, .aload_n 0, 1), (1, .invokespecial 3, 3), (4, .aload_n 0, 1), (5, .bipush 32, 2), (7, .newarray .int, 2), (9, .putfield 9, 3), (12, .aload_n 0, 1), (13, .iconst 0, 1), (14, .putfield 15, 3), (17, .aload_n 0, 1), (18, .iconst 0, 1), (19, .putfield 19, 3), (22, .aload_n 0, 1), (23, .iconst 0, 1), (24, .putfield 22, 3), (27, .aload_n 0, 1), (28, .iconst 0, 1), (29, .putfield 25, 3), (32, .aload_n 0, 1), (33, .iconst 0, 1), (34, .putfield 28, 3), (37, .aload_n 0, 1), (38, .iconst (-1), 1), (39, .putfield 31, 3), (42, .aload_n 0, 1), (43, .iconst (-1), 1), (44, .putfield 34, 3), (47, .aload_n 0, 1), (48, .new 37, 3), (51, .dup, 1), (52, .aload_n 1, 1), (53, .invokespecial 39, 3), (56, .putfield 42, 3), (59, .return_, 1)]
set_option maxRecDepth 100000 in
theorem KX4_init_0 : ∀ q ∈ kX4_init_0, decode cX4_init q.1 = .ok q.2 := by decide +kernel
theorem cbX4_init : CB mX4_init 1 := ⟨tin1 5 rfl rfl, tin1 161 rfl rfl, ⟨by decide, by decide, by decide +kernel⟩, by decide⟩
theorem df4 : ∀ j, j < 9 → defaultValue (tyX 4 j) = if isR 4 j then .null else .int 0 := by decide +kernel
abbrev mX3_init : Mth := (yX3_init, cX3_init, 2, none)
def kX3_init_0 : List (Nat × Instr × Nat) := [(0, .aload_n 0, 1), (1, .invokespecial 3, 3), (4, .aload_n 0, 1), (5, .iconst 0, 1), (6, .putfield 9, 3), (9, .aload_n 0, 1), (10, .iconst 0, 1), (11, .putfield 15, 3), (14, .aload_n 0, 1), (15, .bipush 6, 2), (17, .newarray .int, 2), (19, .putfield 18, 3), (22, .aload_n 0, 1), (23, .bipush 6, 2), (25, .newarray .int, 2), (27, .putfield 22, 3), (30, .aload_n 0, 1), (31, .bipush 6, 2), (33, .newarray .int, 2), (35, .putfield 25, 3), (38, .aload_n 0, 1), (39, .iconst 0, 1), (40, .putfield 28, 3), (43, .aload_n 0, 1), (44, .bipush 6, 2), (46, .newarray .int, 2), (48, .putfield 31, 3), (51, .aload_n 0, 1), (52, .bipush 6, 2), (54, .newarray .int, 2), (56, .putfield 34, 3), (59, .aload_n 0, 1), (60, .iconst 3, 1), (61, .newarray .int, 2), (63, .putfield 37, 3), (66, .aload_n 0, 1), (67, .iconst 3, 1), (68, .newarray .int, 2), (70, .putfield 40, 3), (73, .aload_n 0, 1), (74, .iconst 3, 1), (75, .newarray .int, 2), (77, .putfield 43, 3), (80, .aload_n 0, 1), (81, .aload_n 1, 1), (82, .putfield 46, 3), (85, .return_, 1)]
set_option maxRecDepth 100000 in
theorem KX3_init_0 : ∀ q ∈ kX3_init_0, decode cX3_init q.1 = .ok q.2 := by decide +kernel
theorem cbX3_init : CB mX3_init 1 := ⟨tin1 8 rfl rfl, tin1 228 rfl rfl, ⟨by decide, by decide, by decide +kernel⟩, by decide⟩
theorem df3 : ∀ j, j < 12 → defaultValue (tyX 3 j) = if isR 3 j then .null else .int 0 := by decide +kernel
abbrev mX1_init : Mth := (yX1_init, cX1_init, 3, none)
def kX1_init_0 : List (Nat × Instr × Nat) := [(0, .aload_n 0, 1), (1, .invokespecial 3, 3), (4, .aload_n 0, 1), (5, .bipush 8, 2), (7, .newarray .int, 2), (9, .putfield 9, 3), (12, .aload_n 0, 1), (13, .bipush 6, 2), (15, .bipush 60, 2), (17, .multianewarray 15 2, 4), (21, .putfield 17, 3), (24, .aload_n 0, 1), (25, .bipush 6, 2), (27, .bipush 60, 2), (29, .multianewarray 15 2, 4), (33, .putfield 20, 3), (36, .aload_n 0, 1), (37, .bipush 6, 2), (39, .bipush 60, 2), (41, .multianewarray 15 2, 4), (45, .putfield 23, 3), (48, .aload_n 0, 1), (49, .bipush 6, 2), (51, .bipush 60, 2), (53, .multianewarray 15 2, 4), (57, .putfield 26, 3), (60, .aload_n 0, 1), (61, .bipush 6, 2), (63, .bipush 60, 2), (65, .multianewarray 15 2, 4), (69, .putfield 29, 3), (72, .aload_n 0, 1), (73, .bipush 6, 2), (75, .bipush 60, 2), (77, .multianewarray 15 2, 4), (81, .putfield 32, 3), (84, .aload_n 0, 1), (85, .bipush 6, 2), (87, .bipush 60, 2), (89, .multianewarray 15 2, 4), (93, .putfield 35, 3), (96, .aload_n 0, 1), (97, .bipush 8, 2), (99, .bipush 60, 2), (101, .multianewarray 15 2, 4), (105, .putfield 38, 3), (108, .aload_n 0, 1), (109, .iconst 5, 1), (110, .bipush 60, 2), (112, .multianewarray 15 2, 4), (116, .putfield 41, 3), (119, .aload_n 0, 1), (120, .iconst (-1), 1), (121, .putfield 44, 3), (124, .aload_n 0, 1), (125, .aload_n 1, 1), (126, .putfield 48, 3), (129, .aload_n 0, 1), (130, .aload_n 2, 1), (131, .putfield 52, 3)]
set_option maxRecDepth 100000 in
theorem KX1_init_0 : ∀ q ∈ kX1_init_0, decode cX1_init q.1 = .ok q.2 := by decide +kernel
def kX1_init_1 : List (Nat × Instr × Nat) := [(134, .aload_n 0, 1), (135, .new 56, 3), (138, .dup, 1), (139, .aload_n 1, 1), (140, .invokespecial 58, 3), (143, .putfield 61, 3), (146, .return_, 1)]
set_option maxRecDepth 100000 in
theorem KX1_init_1 : ∀ q ∈ kX1_init_1, decode cX1_init q.1 = .ok q.2 := by decide +kernel
theorem cbX1_init : CB mX1_init 2 := ⟨tin1 7 rfl rfl, tin1 221 rfl rfl, ⟨by decide, by decide, by decide +kernel⟩, by decide⟩
theorem df1 : ∀ j, j < 14 → defaultValue (tyX 1 j) = if isR 1 j then .null else .int 0 := by decide +kernel
abbrev mX5_init : Mth := (yX5_init, cX5_init, 1, none)
def kX5_init_0 : List (Nat × Instr × Nat) := [(0, .aload_n 0, 1), (1, .invokespecial 3, 3), (4, .aload_n 0, 1), (5, .bipush 20, 2), (7, .newarray .int, 2), (9, .putfield 9, 3), (12, .aload_n 0, 1), (13, .bipush 20, 2), (15, .newarray .int, 2), (17, .putfield 15, 3), (20, .aload_n 0, 1), (21, .bipush 20, 2), (23, .newarray .int, 2), (25, .putfield 18, 3), (28, .aload_n 0, 1), (29, .bipush 20, 2), (31, .newarray .int, 2), (33, .putfield 21, 3), (36, .aload_n 0, 1), (37, .bipush 20, 2), (39, .newarray .int, 2), (41, .putfield 24, 3), (44, .aload_n 0, 1), (45, .sipush 400, 3), (48, .newarray .int, 2), (50, .putfield 27, 3), (53, .aload_n 0, 1), (54, .bipush 32, 2), (56, .newarray .int, 2), (58, .putfield 30, 3), (61, .aload_n 0, 1), (62, .iconst 0, 1), (63, .putfield 33, 3), (66, .aload_n 0, 1), (67, .iconst 0, 1), (68, .putfield 37, 3), (71, .return_, 1)]
set_option maxRecDepth 100000 in
theorem KX5_init_0 : ∀ q ∈ kX5_init_0, decode cX5_init q.1 = .ok q.2 := by decide +kernel
theorem cbX5_init : CB mX5_init 0 := ⟨tin1 9 rfl rfl, tin2 86 rfl rfl, ⟨by decide, by decide, by decide +kernel⟩, by decide⟩
theorem df5 : ∀ j, j < 9 → defaultValue (tyX 5 j) = if isR 5 j then .null else .int 0 := by decide +kernel
abbrev mX8_init : Mth := (yX8_init, cX8_init, 4, none)
def kX8_init_0 : List (Nat × Instr × Nat) := [(0, .aload_n 0, 1), (1, .invokespecial 3, 3), (4, .new 9, 3), (7, .dup, 1), (8, .invokespecial 11, 3), (11, .astore_n 1, 1), (12, .new 12, 3), (15, .dup, 1), (16, .invokespecial 14, 3), (19, .astore_n 2, 1), (20, .new 15, 3), (23, .dup, 1), (24, .invokespecial 17, 3), (27, .astore_n 3, 1), (28, .aload_n 0, 1), (29, .aload_n 1, 1), (30, .putfield 18, 3), (33, .aload_n 0, 1), (34, .new 22, 3), (37, .dup, 1), (38, .aload_n 1, 1), (39, .invokespecial 24, 3), (42, .putfield 27, 3), (45, .aload_n 0, 1), (46, .aload_n 2, 1), (47, .putfield 31, 3), (50, .aload_n 0, 1), (51, .aload_n 3, 1), (52, .putfield 35, 3), (55, .aload_n 0, 1), (56, .new 39, 3), (59, .dup, 1), (60, .aload_n 2, 1), (61, .aload_n 3, 1), (62, .invokespecial 41, 3), (65, .putfield 44, 3), (68, .aload_n 0, 1), (69, .new 48, 3), (72, .dup, 1), (73, .invokespecial 50, 3), (76, .putfield 51, 3), (79, .aload_n 0, 1), (80, .new 48, 3), (83, .dup, 1), (84, .invokespecial 50, 3), (87, .putfield 55, 3), (90, .return_, 1)]
set_option maxRecDepth 100000 in
theorem KX8_init_0 : ∀ q ∈ kX8_init_0, decode cX8_init q.1 = .ok q.2 := by decide +kernel
theorem cbX8_init : CB mX8_init 0 := ⟨tin1 1 rfl rfl, tin1 20 rfl rfl, ⟨by decide, by decide, by decide +kernel⟩, by decide⟩
theorem df8 : ∀ j, j < 7 → defaultValue (tyX 8 j) = if isR 8 j then .null else .int 0 := by decide +kernel
abbrev mX9_init : Mth := (yX9_init, cX9_init, 1, none)
def kX9_init_0 : List (Nat × Instr × Nat) := [(0, .aload_n 0, 1), (1, .invokespecial 7, 3), (4, .aload_n 0, 1), (5, .sipush 2000, 3), (8, .newarray .byte, 2), (10, .putfield 13, 3), (13, .aload_n 0, 1), (14, .sipush 2000, 3), (17, .newarray .byte, 2), (19, .putfield 17, 3), (22, .aload_n 0, 1), (23, .sipush 403, 3), (26, .newarray .int, 2), (28, .putfield 20, 3), (31, .aload_n 0, 1), (32, .sipush 403, 3), (35, .newarray .int, 2), (37, .putfield 24, 3), (40, .aload_n 0, 1), (41, .sipush 403, 3), (44, .newarray .int, 2), (46, .putfield 27, 3), (49, .aload_n 0, 1), (50, .sipush 403, 3), (53, .newarray .long, 2), (55, .putfield 30, 3), (58, .aload_n 0, 1), (59, .bipush 14, 2), (61, .newarray .long, 2), (63, .putfield 34, 3), (66, .aload_n 0, 1), (67, .iconst (-1), 1), (68, .putfield 37, 3), (71, .aload_n 0, 1), (72, .iconst 2, 1), (73, .newarray .int, 2), (75, .putfield 40, 3), (78, .aload_n 0, 1), (79, .bipush 40, 2), (81, .newarray .int, 2), (83, .putfield 43, 3), (86, .aload_n 0, 1), (87, .bipush 40, 2), (89, .newarray .int, 2), (91, .putfield 46, 3), (94, .aload_n 0, 1), (95, .bipush 40, 2), (97, .newarray .int, 2), (99, .putfield 49, 3), (102, .aload_n 0, 1), (103, .bipush 40, 2), (105, .newarray .int, 2), (107, .putfield 52, 3), (110, .aload_n 0, 1), (111, .bipush 40, 2), (113, .newarray .int, 2), (115, .putfield 55, 3), (118, .aload_n 0, 1), (119, .bipush 40, 2), (121, .newarray .int, 2)]
set_option maxRecDepth 100000 in
theorem KX9_init_0 : ∀ q ∈ kX9_init_0, decode cX9_init q.1 = .ok q.2 := by decide +kernel
def kX9_init_1 : List (Nat × Instr × Nat) := [(123, .putfield 58, 3), (126, .aload_n 0, 1), (127, .iconst 2, 1), (128, .newarray .int, 2), (130, .putfield 61, 3), (133, .aload_n 0, 1), (134, .sipush 400, 3), (137, .newarray .int, 2), (139, .putfield 64, 3), (142, .aload_n 0, 1), (143, .sipush 400, 3), (146, .newarray .int, 2), (148, .putfield 67, 3), (151, .aload_n 0, 1), (152, .sipush 400, 3), (155, .newarray .int, 2), (157, .putfield 70, 3), (160, .aload_n 0, 1), (161, .sipush 400, 3), (164, .newarray .int, 2), (166, .putfield 73, 3), (169, .aload_n 0, 1), (170, .sipush 400, 3), (173, .newarray .boolean, 2), (175, .putfield 76, 3), (178, .aload_n 0, 1), (179, .sipush 1000, 3), (182, .newarray .int, 2), (184, .putfield 80, 3), (187, .aload_n 0, 1), (188, .sipush 1000, 3), (191, .newarray .int, 2), (193, .putfield 83, 3), (196, .aload_n 0, 1), (197, .bipush 48, 2), (199, .newarray .int, 2), (201, .putfield 86, 3), (204, .aload_n 0, 1), (205, .bipush 8, 2), (207, .newarray .int, 2), (209, .putfield 89, 3), (212, .aload_n 0, 1), (213, .bipush 8, 2), (215, .newarray .int, 2), (217, .putfield 92, 3), (220, .aload_n 0, 1), (221, .bipush 8, 2), (223, .newarray .int, 2), (225, .putfield 95, 3), (228, .aload_n 0, 1), (229, .bipush 8, 2), (231, .newarray .int, 2), (233, .putfield 98, 3), (236, .aload_n 0, 1), (237, .bipush 24, 2), (239, .newarray .int, 2), (241, .putfield 101, 3), (244, .aload_n 0, 1), (245, .bipush 6, 2), (247, .newarray .int, 2)]
set_option maxRecDepth 100000 in
theorem KX9_init_1 : ∀ q ∈ kX9_init_1, decode cX9_init q.1 = .ok q.2 := by decide +kernel
def kX9_init_2 : List (Nat × Instr × Nat) := [(249, .putfield 104, 3), (252, .aload_n 0, 1), (253, .bipush 6, 2), (255, .newarray .int, 2), (257, .putfield 107, 3), (260, .aload_n 0, 1), (261, .bipush 6, 2), (263, .newarray .int, 2), (265, .putfield 110, 3), (268, .aload_n 0, 1), (269, .bipush 6, 2), (271, .newarray .int, 2), (273, .putfield 113, 3), (276, .aload_n 0, 1), (277, .bipush 6, 2), (279, .newarray .int, 2), (281, .putfield 116, 3), (284, .aload_n 0, 1), (285, .bipush 6, 2), (287, .newarray .int, 2), (289, .putfield 119, 3), (292, .aload_n 0, 1), (293, .bipush 6, 2), (295, .newarray .int, 2), (297, .putfield 122, 3), (300, .aload_n 0, 1), (301, .bipush 60, 2), (303, .newarray .int, 2), (305, .putfield 125, 3), (308, .aload_n 0, 1), (309, .sipush 300, 3), (312, .newarray .int, 2), (314, .putfield 128, 3), (317, .aload_n 0, 1), (318, .sipush 300, 3), (321, .newarray .int, 2), (323, .putfield 131, 3), (326, .aload_n 0, 1), (327, .sipush 300, 3), (330, .newarray .int, 2), (332, .putfield 134, 3), (335, .aload_n 0, 1), (336, .iconst (-1), 1), (337, .putfield 137, 3), (340, .aload_n 0, 1), (341, .sipush 360, 3), (344, .newarray .int, 2), (346, .putfield 140, 3), (349, .aload_n 0, 1), (350, .sipush 360, 3), (353, .newarray .int, 2), (355, .putfield 143, 3), (358, .aload_n 0, 1), (359, .sipush 360, 3), (362, .newarray .int, 2), (364, .putfield 146, 3), (367, .aload_n 0, 1), (368, .sipush 360, 3), (371, .newarray .int, 2), (373, .putfield 149, 3)]
set_option maxRecDepth 100000 in
theorem KX9_init_2 : ∀ q ∈ kX9_init_2, decode cX9_init q.1 = .ok q.2 := by decide +kernel
def kX9_init_3 : List (Nat × Instr × Nat) := [(376, .aload_n 0, 1), (377, .sipush 360, 3), (380, .newarray .int, 2), (382, .putfield 152, 3), (385, .aload_n 0, 1), (386, .sipush 360, 3), (389, .newarray .int, 2), (391, .putfield 155, 3), (394, .aload_n 0, 1), (395, .sipush 360, 3), (398, .newarray .int, 2), (400, .putfield 158, 3), (403, .aload_n 0, 1), (404, .sipush 480, 3), (407, .newarray .int, 2), (409, .putfield 161, 3), (412, .aload_n 0, 1), (413, .sipush 300, 3), (416, .newarray .int, 2), (418, .putfield 164, 3), (421, .aload_n 0, 1), (422, .sipush 480, 3), (425, .newarray .boolean, 2), (427, .putfield 167, 3), (430, .aload_n 0, 1), (431, .bipush 6, 2), (433, .newarray .int, 2), (435, .putfield 170, 3), (438, .aload_n 0, 1), (439, .bipush 6, 2), (441, .newarray .int, 2), (443, .putfield 173, 3), (446, .aload_n 0, 1), (447, .bipush 6, 2), (449, .newarray .int, 2), (451, .putfield 176, 3), (454, .aload_n 0, 1), (455, .bipush 6, 2), (457, .newarray .int, 2), (459, .putfield 179, 3), (462, .aload_n 0, 1), (463, .iconst 5, 1), (464, .newarray .int, 2), (466, .putfield 182, 3), (469, .aload_n 0, 1), (470, .bipush 8, 2), (472, .newarray .int, 2), (474, .putfield 185, 3), (477, .aload_n 0, 1), (478, .sipush 500, 3), (481, .newarray .int, 2), (483, .putfield 188, 3), (486, .aload_n 0, 1), (487, .bipush 6, 2), (489, .newarray .int, 2), (491, .putfield 191, 3), (494, .aload_n 0, 1), (495, .bipush 6, 2), (497, .newarray .int, 2), (499, .putfield 194, 3)]
set_option maxRecDepth 100000 in
theorem KX9_init_3 : ∀ q ∈ kX9_init_3, decode cX9_init q.1 = .ok q.2 := by decide +kernel
def kX9_init_4 : List (Nat × Instr × Nat) := [(502, .aload_n 0, 1), (503, .bipush 6, 2), (505, .newarray .int, 2), (507, .putfield 197, 3), (510, .aload_n 0, 1), (511, .bipush 6, 2), (513, .newarray .int, 2), (515, .putfield 200, 3), (518, .aload_n 0, 1), (519, .getfield 34, 3), (522, .iconst 0, 1), (523, .bipush 102, 2), (525, .bipush 105, 2), (527, .bipush 114, 2), (529, .bipush 115, 2), (531, .bipush 116, 2), (533, .iconst 0, 1), (534, .iconst 0, 1), (535, .invokestatic 203, 3), (538, .lastore, 1), (539, .aload_n 0, 1), (540, .getfield 34, 3), (543, .iconst 1, 1), (544, .bipush 105, 2), (546, .bipush 102, 2), (548, .iconst 0, 1), (549, .iconst 0, 1), (550, .iconst 0, 1), (551, .iconst 0, 1), (552, .iconst 0, 1), (553, .invokestatic 203, 3), (556, .lastore, 1), (557, .aload_n 0, 1), (558, .getfield 34, 3), (561, .iconst 2, 1), (562, .bipush 116, 2), (564, .bipush 111, 2), (566, .bipush 108, 2), (568, .bipush 108, 2), (570, .iconst 0, 1), (571, .iconst 0, 1), (572, .iconst 0, 1), (573, .invokestatic 203, 3), (576, .lastore, 1), (577, .aload_n 0, 1), (578, .getfield 34, 3), (581, .iconst 3, 1), (582, .bipush 98, 2), (584, .bipush 97, 2), (586, .bipush 114, 2), (588, .iconst 0, 1), (589, .iconst 0, 1), (590, .iconst 0, 1), (591, .iconst 0, 1), (592, .invokestatic 203, 3), (595, .lastore, 1), (596, .aload_n 0, 1), (597, .getfield 34, 3), (600, .iconst 4, 1), (601, .bipush 111, 2)]
set_option maxRecDepth 100000 in
theorem KX9_init_4 : ∀ q ∈ kX9_init_4, decode cX9_init q.1 = .ok q.2 := by decide +kernel
def kX9_init_5 : List (Nat × Instr × Nat) := [(603, .bipush 114, 2), (605, .iconst 0, 1), (606, .iconst 0, 1), (607, .iconst 0, 1), (608, .iconst 0, 1), (609, .iconst 0, 1), (610, .invokestatic 203, 3), (613, .lastore, 1), (614, .aload_n 0, 1), (615, .getfield 34, 3), (618, .iconst 5, 1), (619, .bipush 97, 2), (621, .bipush 110, 2), (623, .bipush 100, 2), (625, .iconst 0, 1), (626, .iconst 0, 1), (627, .iconst 0, 1), (628, .iconst 0, 1), (629, .invokestatic 203, 3), (632, .lastore, 1), (633, .aload_n 0, 1), (634, .getfield 34, 3), (637, .bipush 6, 2), (639, .bipush 107, 2), (641, .bipush 105, 2), (643, .bipush 110, 2), (645, .bipush 100, 2), (647, .iconst 0, 1), (648, .iconst 0, 1), (649, .iconst 0, 1), (650, .invokestatic 203, 3), (653, .lastore, 1), (654, .aload_n 0, 1), (655, .getfield 34, 3), (658, .bipush 7, 2), (660, .bipush 98, 2), (662, .bipush 101, 2), (664, .bipush 97, 2), (666, .bipush 115, 2), (668, .bipush 116, 2), (670, .bipush 115, 2), (672, .iconst 0, 1), (673, .invokestatic 203, 3), (676, .lastore, 1), (677, .aload_n 0, 1), (678, .getfield 34, 3), (681, .bipush 8, 2), (683, .bipush 103, 2), (685, .bipush 117, 2), (687, .bipush 97, 2), (689, .bipush 114, 2), (691, .bipush 100, 2), (693, .bipush 115, 2), (695, .iconst 0, 1), (696, .invokestatic 203, 3), (699, .lastore, 1), (700, .aload_n 0, 1), (701, .getfield 34, 3), (704, .bipush 9, 2), (706, .bipush 98, 2)]
set_option maxRecDepth 100000 in
theorem KX9_init_5 : ∀ q ∈ kX9_init_5, decode cX9_init q.1 = .ok q.2 := by decide +kernel
def kX9_init_6 : List (Nat × Instr × Nat) := [(708, .bipush 97, 2), (710, .bipush 108, 2), (712, .bipush 101, 2), (714, .bipush 115, 2), (716, .iconst 0, 1), (717, .iconst 0, 1), (718, .invokestatic 203, 3), (721, .lastore, 1), (722, .aload_n 0, 1), (723, .getfield 34, 3), (726, .bipush 10, 2), (728, .bipush 104, 2), (730, .bipush 117, 2), (732, .bipush 110, 2), (734, .bipush 103, 2), (736, .bipush 114, 2), (738, .bipush 121, 2), (740, .iconst 0, 1), (741, .invokestatic 203, 3), (744, .lastore, 1), (745, .aload_n 0, 1), (746, .getfield 34, 3), (749, .bipush 11, 2), (751, .bipush 100, 2), (753, .bipush 97, 2), (755, .bipush 121, 2), (757, .iconst 0, 1), (758, .iconst 0, 1), (759, .iconst 0, 1), (760, .iconst 0, 1), (761, .invokestatic 203, 3), (764, .lastore, 1), (765, .aload_n 0, 1), (766, .getfield 34, 3), (769, .bipush 12, 2), (771, .bipush 105, 2), (773, .bipush 110, 2), (775, .bipush 110, 2), (777, .iconst 0, 1), (778, .iconst 0, 1), (779, .iconst 0, 1), (780, .iconst 0, 1), (781, .invokestatic 203, 3), (784, .lastore, 1), (785, .aload_n 0, 1), (786, .getfield 34, 3), (789, .bipush 13, 2), (791, .bipush 108, 2), (793, .bipush 97, 2), (795, .bipush 116, 2), (797, .bipush 101, 2), (799, .iconst 0, 1), (800, .iconst 0, 1), (801, .iconst 0, 1), (802, .invokestatic 203, 3), (805, .lastore, 1), (806, .return_, 1)]
set_option maxRecDepth 100000 in
theorem KX9_init_6 : ∀ q ∈ kX9_init_6, decode cX9_init q.1 = .ok q.2 := by decide +kernel
theorem cbX9_init : CB mX9_init 0 := ⟨tin1 10 rfl rfl, tin4 90 rfl rfl, ⟨by decide, by decide, by decide +kernel⟩, by decide⟩
theorem df9 : ∀ j, j < 80 → defaultValue (tyX 9 j) = if isR 9 j then .null else .int 0 := by decide +kernel
theorem cbX9_word : CB mX9_word 7 := ⟨tin1 10 rfl rfl, tin4 94 rfl rfl, ⟨by decide, by decide, by decide +kernel⟩, by decide⟩
def SMr (vr : Nat → Nat → Option Nat) : Prop := ∀ k j, 80 ≤ j → vr k j = none
theorem SMr.r {vr : Nat → Nat → Option Nat} {k j q : Nat} (h : SMr vr) (hj : j < 80) : SMr (u2 vr k j (some q)) := by
  intro a b hb
  unfold u2
  split
  · rw [if_neg (by omega)]
    exact h a b hb
  · exact h a b hb
theorem SMr.g {vr : Nat → Nat → Option Nat} {n N : Nat} (h : SMr vr) (hN : N ≤ 80) : SMr (rG vr n N) := by
  intro a b hb
  unfold rG
  split
  · rw [if_neg (by omega)]
  · exact h a b hb
section ZW
variable {g : GP} {M : Mth} {d nc ns : Nat} {post : Option Value → PH → Prop} {pc : Nat} {L : List (Nat × Value)} {st : List Value} {n N : Nat} {vi : Nat → Nat → Int32} {vl : Nat → Nat → Int64} {vr : Nat → Nat → Option Nat} {cnt : Int32}
theorem Z_newI (ho : SH0.2 n = (10, N)) (hcn : ¬ cnt < 0) (hcN : cnt.toNatClampNeg = N) (hby : N * 8 ≤ 536870912) (hk : OKH n vi vl vr) (hn : n < SB) (hL : lok n L = true) (hS : sok n st = true) (hd : decode M.2.1 pc = .ok (.newarray .int, 2)) (kk : X g M d nc ns post (pc + 2) L (.ref n :: st) (HN (n + 1) vi vl vr)) : X g M d (nc + 1) (ns + N) post pc L (.int cnt :: st) (HN n vi vl vr) := by
  refine Z_newa (t := 10) (a0 := (N, .inl (fun _ => 0))) 0 rfl (fun _ => rfl) (fun C h => by cases h) ho (fun _ => rfl) (fun dA ad => ?_) hcn hcN (by show N * 4 ≤ _; omega) hk hn hL hS (tin1 130 rfl rfl) hd kk
  · rw [cE_arr (h := HN (n + 1) vi vl vr) ho (by decide) (by decide) (by decide)]
    have e : vi n = fun _ => 0 := funext (fun j => (hk.1 n (Nat.le_refl _) j).1)
    show (Sum.inl (dA 10, N, Sum.inl (vi n)) : va_E) = _
    rw [e]
theorem Z_newB (ho : SH0.2 n = (11, N)) (hcn : ¬ cnt < 0) (hcN : cnt.toNatClampNeg = N) (hby : N * 8 ≤ 536870912) (hk : OKH n vi vl vr) (hn : n < SB) (hL : lok n L = true) (hS : sok n st = true) (hd : decode M.2.1 pc = .ok (.newarray .byte, 2)) (kk : X g M d nc ns post (pc + 2) L (.ref n :: st) (HN (n + 1) vi vl vr)) : X g M d (nc + 1) (ns + N) post pc L (.int cnt :: st) (HN n vi vl vr) := by
  refine Z_newa (t := 11) (a0 := (N, .inl (fun _ => 0))) 1 rfl (fun _ => rfl) (fun C h => by cases h) ho (fun _ => rfl) (fun dA ad => ?_) hcn hcN (by show N * 1 ≤ _; omega) hk hn hL hS (tin1 39 rfl rfl) hd kk
  · rw [cE_arr (h := HN (n + 1) vi vl vr) ho (by decide) (by decide) (by decide)]
    have e : vi n = fun _ => 0 := funext (fun j => (hk.1 n (Nat.le_refl _) j).1)
    show (Sum.inl (dA 11, N, Sum.inl (vi n)) : va_E) = _
    rw [e]
theorem Z_newZ (ho : SH0.2 n = (12, N)) (hcn : ¬ cnt < 0) (hcN : cnt.toNatClampNeg = N) (hby : N * 8 ≤ 536870912) (hk : OKH n vi vl vr) (hn : n < SB) (hL : lok n L = true) (hS : sok n st = true) (hd : decode M.2.1 pc = .ok (.newarray .boolean, 2)) (kk : X g M d nc ns post (pc + 2) L (.ref n :: st) (HN (n + 1) vi vl vr)) : X g M d (nc + 1) (ns + N) post pc L (.int cnt :: st) (HN n vi vl vr) := by
  refine Z_newa (t := 12) (a0 := (N, .inl (fun _ => 0))) 2 rfl (fun _ => rfl) (fun C h => by cases h) ho (fun _ => rfl) (fun dA ad => ?_) hcn hcN (by show N * 1 ≤ _; omega) hk hn hL hS (tin1 156 rfl rfl) hd kk
  · rw [cE_arr (h := HN (n + 1) vi vl vr) ho (by decide) (by decide) (by decide)]
    have e : vi n = fun _ => 0 := funext (fun j => (hk.1 n (Nat.le_refl _) j).1)
    show (Sum.inl (dA 12, N, Sum.inl (vi n)) : va_E) = _
    rw [e]
theorem Z_newJ (ho : SH0.2 n = (13, N)) (hcn : ¬ cnt < 0) (hcN : cnt.toNatClampNeg = N) (hby : N * 8 ≤ 536870912) (hk : OKH n vi vl vr) (hn : n < SB) (hL : lok n L = true) (hS : sok n st = true) (hd : decode M.2.1 pc = .ok (.newarray .long, 2)) (kk : X g M d nc ns post (pc + 2) L (.ref n :: st) (HN (n + 1) vi vl vr)) : X g M d (nc + 1) (ns + N) post pc L (.int cnt :: st) (HN n vi vl vr) := by
  refine Z_newa (t := 13) (a0 := (N, .inr (.inl (fun _ => 0)))) 3 rfl (fun _ => rfl) (fun C h => by cases h) ho (fun _ => rfl) (fun dA ad => ?_) hcn hcN (by show N * 8 ≤ _; omega) hk hn hL hS (tin5 99 rfl rfl) hd kk
  · rw [cE_long (h := HN (n + 1) vi vl vr) ho]
    have e : vl n = fun _ => 0 := funext (fun j => (hk.1 n (Nat.le_refl _) j).2.1)
    show (Sum.inl (dA 13, N, Sum.inr (Sum.inl (vl n))) : va_E) = _
    rw [e]
end ZW
def mor (a : Int64) (c : Int32) : Int64 := if c = 0 then a else 27 * a + (c - 97 + 1).toInt64
def wrd (a b c d e f h : Int32) : Int64 := mor (mor (mor (mor (mor (mor (mor 0 a) b) c) d) e) f) h
section WO
variable {g : GP} {h : PH}
theorem okg_more (a0 : Int64) (a2 : Int32) : CON g mX9_more 0 0 0 [.long a0, .int a2] h (pS (some (.long (mor a0 a2))) h) := by
  refine CON.of (by decide) (by simp [lg_sl, Value.category]) ?_
  show X g _ _ _ _ _ 0 [(0, .long a0), (2, .int a2)] [] _
  refine X_iload_n 1 rfl (dk KX9_more 0 rfl) ?_
  refine X_if_ne 8 (dk KX9_more 1 rfl) (by decide) (fun hc => ?_) (fun hc => ?_)
  · refine X_ldc2 27 cstX9_217 (dk KX9_more 4 rfl) ?_
    refine X_lload_n 0 rfl (dk KX9_more 5 rfl) ?_
    refine X_lmul (dk KX9_more 6 rfl) ?_
    refine X_iload_n 1 rfl (dk KX9_more 7 rfl) ?_
    refine X_bipush (dk KX9_more 8 rfl) 97 (by decide) ?_
    refine X_isub (dk KX9_more 9 rfl) ?_
    refine X_iconst (dk KX9_more 10 rfl) 1 (by decide) ?_
    refine X_iadd (dk KX9_more 11 rfl) ?_
    refine X_i2l (dk KX9_more 12 rfl) ?_
    refine X_ladd (dk KX9_more 13 rfl) ?_
    exact X_lreturn (dk KX9_more 14 rfl) rfl ⟨by rw [mor, if_neg hc], rfl⟩
  · refine X_lload_n 0 rfl (dk KX9_more 2 rfl) ?_
    refine X_goto 21 (dk KX9_more 3 rfl) (by decide) ?_
    exact X_lreturn (dk KX9_more 14 rfl) rfl ⟨by rw [mor, if_pos hc], rfl⟩
theorem okg_word (a0 a1 a2 a3 a4 a5 a6 : Int32) : CON g mX9_word 1 0 0 [.int a0, .int a1, .int a2, .int a3, .int a4, .int a5, .int a6] h (pS (some (.long (wrd a0 a1 a2 a3 a4 a5 a6))) h) := by
  refine CON.of (by decide) (by simp [lg_sl, Value.category]) ?_
  show X g _ _ _ _ _ 0 [(0, .int a0), (1, .int a1), (2, .int a2), (3, .int a3), (4, .int a4), (5, .int a5), (6, .int a6)] [] _
  refine X_lconst (dk KX9_word 0 rfl) 0 (by decide) ?_
  refine X_iload_n 0 rfl (dk KX9_word 1 rfl) ?_
  refine X_callS (M' := mX9_more) (av := [.long 0, .int a0]) (st := []) (dc := 0) cbX9_more wX9_219.2.1 wX9_219.2.2 rfl (Nat.le_of_ble_eq_true rfl) (Nat.le_of_ble_eq_true rfl) (dk KX9_word 2 rfl) (okg_more 0 a0) pS_st (fun v h' hp => ?_)
  obtain ⟨rfl, rfl⟩ := hp
  show X g _ _ _ _ _ _ [(0, .int a0), (1, .int a1), (2, .int a2), (3, .int a3), (4, .int a4), (5, .int a5), (6, .int a6)] [.long (mor 0 a0)] _
  refine X_iload_n 1 rfl (dk KX9_word 3 rfl) ?_
  refine X_callS (M' := mX9_more) (av := [.long (mor 0 a0), .int a1]) (st := []) (dc := 0) cbX9_more wX9_219.2.1 wX9_219.2.2 rfl (Nat.le_of_ble_eq_true rfl) (Nat.le_of_ble_eq_true rfl) (dk KX9_word 4 rfl) (okg_more (mor 0 a0) a1) pS_st (fun v h' hp => ?_)
  obtain ⟨rfl, rfl⟩ := hp
  show X g _ _ _ _ _ _ [(0, .int a0), (1, .int a1), (2, .int a2), (3, .int a3), (4, .int a4), (5, .int a5), (6, .int a6)] [.long (mor (mor 0 a0) a1)] _
  refine X_iload_n 2 rfl (dk KX9_word 5 rfl) ?_
  refine X_callS (M' := mX9_more) (av := [.long (mor (mor 0 a0) a1), .int a2]) (st := []) (dc := 0) cbX9_more wX9_219.2.1 wX9_219.2.2 rfl (Nat.le_of_ble_eq_true rfl) (Nat.le_of_ble_eq_true rfl) (dk KX9_word 6 rfl) (okg_more (mor (mor 0 a0) a1) a2) pS_st (fun v h' hp => ?_)
  obtain ⟨rfl, rfl⟩ := hp
  show X g _ _ _ _ _ _ [(0, .int a0), (1, .int a1), (2, .int a2), (3, .int a3), (4, .int a4), (5, .int a5), (6, .int a6)] [.long (mor (mor (mor 0 a0) a1) a2)] _
  refine X_iload_n 3 rfl (dk KX9_word 7 rfl) ?_
  refine X_callS (M' := mX9_more) (av := [.long (mor (mor (mor 0 a0) a1) a2), .int a3]) (st := []) (dc := 0) cbX9_more wX9_219.2.1 wX9_219.2.2 rfl (Nat.le_of_ble_eq_true rfl) (Nat.le_of_ble_eq_true rfl) (dk KX9_word 8 rfl) (okg_more (mor (mor (mor 0 a0) a1) a2) a3) pS_st (fun v h' hp => ?_)
  obtain ⟨rfl, rfl⟩ := hp
  show X g _ _ _ _ _ _ [(0, .int a0), (1, .int a1), (2, .int a2), (3, .int a3), (4, .int a4), (5, .int a5), (6, .int a6)] [.long (mor (mor (mor (mor 0 a0) a1) a2) a3)] _
  refine X_iload 4 rfl (dk KX9_word 9 rfl) ?_
  refine X_callS (M' := mX9_more) (av := [.long (mor (mor (mor (mor 0 a0) a1) a2) a3), .int a4]) (st := []) (dc := 0) cbX9_more wX9_219.2.1 wX9_219.2.2 rfl (Nat.le_of_ble_eq_true rfl) (Nat.le_of_ble_eq_true rfl) (dk KX9_word 10 rfl) (okg_more (mor (mor (mor (mor 0 a0) a1) a2) a3) a4) pS_st (fun v h' hp => ?_)
  obtain ⟨rfl, rfl⟩ := hp
  show X g _ _ _ _ _ _ [(0, .int a0), (1, .int a1), (2, .int a2), (3, .int a3), (4, .int a4), (5, .int a5), (6, .int a6)] [.long (mor (mor (mor (mor (mor 0 a0) a1) a2) a3) a4)] _
  refine X_iload 5 rfl (dk KX9_word 11 rfl) ?_
  refine X_callS (M' := mX9_more) (av := [.long (mor (mor (mor (mor (mor 0 a0) a1) a2) a3) a4), .int a5]) (st := []) (dc := 0) cbX9_more wX9_219.2.1 wX9_219.2.2 rfl (Nat.le_of_ble_eq_true rfl) (Nat.le_of_ble_eq_true rfl) (dk KX9_word 12 rfl) (okg_more (mor (mor (mor (mor (mor 0 a0) a1) a2) a3) a4) a5) pS_st (fun v h' hp => ?_)
  obtain ⟨rfl, rfl⟩ := hp
  show X g _ _ _ _ _ _ [(0, .int a0), (1, .int a1), (2, .int a2), (3, .int a3), (4, .int a4), (5, .int a5), (6, .int a6)] [.long (mor (mor (mor (mor (mor (mor 0 a0) a1) a2) a3) a4) a5)] _
  refine X_iload 6 rfl (dk KX9_word 13 rfl) ?_
  refine X_callS (M' := mX9_more) (av := [.long (mor (mor (mor (mor (mor (mor 0 a0) a1) a2) a3) a4) a5), .int a6]) (st := []) (dc := 0) cbX9_more wX9_219.2.1 wX9_219.2.2 rfl (Nat.le_of_ble_eq_true rfl) (Nat.le_of_ble_eq_true rfl) (dk KX9_word 14 rfl) (okg_more (mor (mor (mor (mor (mor (mor 0 a0) a1) a2) a3) a4) a5) a6) pS_st (fun v h' hp => ?_)
  obtain ⟨rfl, rfl⟩ := hp
  show X g _ _ _ _ _ _ [(0, .int a0), (1, .int a1), (2, .int a2), (3, .int a3), (4, .int a4), (5, .int a5), (6, .int a6)] [.long (mor (mor (mor (mor (mor (mor (mor 0 a0) a1) a2) a3) a4) a5) a6)] _
  exact X_lreturn (dk KX9_word 15 rfl) rfl ⟨rfl, rfl⟩
end WO
