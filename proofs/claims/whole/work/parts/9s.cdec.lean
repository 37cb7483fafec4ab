/-! rows of the constructors -/
abbrev cX0_init : ByteArray := prog_2_method_1_code
def yX0_init : MethodName := ⟨RX0, "<init>", "()V"⟩
def wI_0 : List Cond := Cond.code yX0_init cX0_init 1 none :: lwG
theorem wIc_0 : Cond.code yX0_init cX0_init 1 none ∈ lwG := lwG_2 1 rfl rfl
theorem wIg_0 : GoodIn lwG wI_0 := fun w h => (List.mem_cons.mp h).elim (fun q => by rw [q]; exact ⟨wIc_0, lwG_good wIc_0⟩) (fun h => ⟨h, lwG_good h⟩)
def rwI_0_0 : List (Nat × Instr) := [(0, .aload_n 0), (4, .aload_n 0), (5, .bipush 50), (9, .putfield 9), (12, .aload_n 0), (13, .bipush 24), (17, .putfield 15), (20, .return_)]
theorem okI_0_0 : okRw cX0_init rwI_0_0 = true := by decide +kernel
theorem dI0_1 : decode cX0_init 1 = .ok (.invokespecial 3, 3) := by decide +kernel
theorem dI0_7 : decode cX0_init 7 = .ok (.newarray .int, 2) := by decide +kernel
theorem dI0_15 : decode cX0_init 15 = .ok (.newarray .int, 2) := by decide +kernel
abbrev cX1_init : ByteArray := prog_3_method_1_code
def yX1_init : MethodName := ⟨RX1, "<init>", "()V"⟩
def wI_1 : List Cond := Cond.code yX1_init cX1_init 1 none :: lwG
theorem wIc_1 : Cond.code yX1_init cX1_init 1 none ∈ lwG := lwG_1 225 rfl rfl
theorem wIg_1 : GoodIn lwG wI_1 := fun w h => (List.mem_cons.mp h).elim (fun q => by rw [q]; exact ⟨wIc_1, lwG_good wIc_1⟩) (fun h => ⟨h, lwG_good h⟩)
def rwI_1_0 : List (Nat × Instr) := [(0, .aload_n 0), (4, .aload_n 0), (5, .sipush 160), (10, .putfield 9), (13, .return_)]
theorem okI_1_0 : okRw cX1_init rwI_1_0 = true := by decide +kernel
theorem dI1_1 : decode cX1_init 1 = .ok (.invokespecial 1, 3) := by decide +kernel
theorem dI1_8 : decode cX1_init 8 = .ok (.newarray .int, 2) := by decide +kernel
abbrev cX2_init : ByteArray := prog_4_method_1_code
def yX2_init : MethodName := ⟨RX2, "<init>", "()V"⟩
def wI_2 : List Cond := Cond.code yX2_init cX2_init 2 none :: lwG
theorem wIc_2 : Cond.code yX2_init cX2_init 2 none ∈ lwG := lwG_1 33 rfl rfl
theorem wIg_2 : GoodIn lwG wI_2 := fun w h => (List.mem_cons.mp h).elim (fun q => by rw [q]; exact ⟨wIc_2, lwG_good wIc_2⟩) (fun h => ⟨h, lwG_good h⟩)
def rwI_2_0 : List (Nat × Instr) := [(0, .aload_n 0), (4, .aload_n 0), (5, .bipush 20), (7, .putfield 7), (10, .aload_n 0), (11, .bipush 8), (15, .putfield 13), (18, .aload_n 0), (19, .bipush 121), (23, .putfield 19), (26, .aload_n 0), (27, .bipush 64), (31, .putfield 22), (34, .aload_n 0), (35, .bipush 6), (39, .putfield 25), (42, .iconst 0), (43, .istore_n 1), (44, .iload_n 1), (45, .aload_n 0), (46, .getfield 13), (49, .arraylength), (50, .if_icmp .ge 17), (53, .aload_n 0), (54, .getfield 13), (57, .iload_n 1), (58, .bipush 9), (60, .iastore), (61, .iinc 1 1), (64, .goto (-20)), (67, .return_)]
theorem okI_2_0 : okRw cX2_init rwI_2_0 = true := by decide +kernel
theorem dI2_1 : decode cX2_init 1 = .ok (.invokespecial 1, 3) := by decide +kernel
theorem dI2_13 : decode cX2_init 13 = .ok (.newarray .int, 2) := by decide +kernel
theorem dI2_21 : decode cX2_init 21 = .ok (.newarray .int, 2) := by decide +kernel
theorem dI2_29 : decode cX2_init 29 = .ok (.newarray .int, 2) := by decide +kernel
theorem dI2_37 : decode cX2_init 37 = .ok (.newarray .int, 2) := by decide +kernel
abbrev cX3_init : ByteArray := prog_5_method_1_code
def yX3_init : MethodName := ⟨RX3, "<init>", "()V"⟩
def wI_3 : List Cond := Cond.code yX3_init cX3_init 1 none :: lwG
theorem wIc_3 : Cond.code yX3_init cX3_init 1 none ∈ lwG := lwG_1 65 rfl rfl
theorem wIg_3 : GoodIn lwG wI_3 := fun w h => (List.mem_cons.mp h).elim (fun q => by rw [q]; exact ⟨wIc_3, lwG_good wIc_3⟩) (fun h => ⟨h, lwG_good h⟩)
def rwI_3_0 : List (Nat × Instr) := [(0, .aload_n 0), (4, .aload_n 0), (5, .bipush 120), (9, .putfield 9), (12, .aload_n 0), (13, .bipush 121), (17, .putfield 13), (20, .return_)]
theorem okI_3_0 : okRw cX3_init rwI_3_0 = true := by decide +kernel
theorem dI3_1 : decode cX3_init 1 = .ok (.invokespecial 3, 3) := by decide +kernel
theorem dI3_7 : decode cX3_init 7 = .ok (.newarray .int, 2) := by decide +kernel
theorem dI3_15 : decode cX3_init 15 = .ok (.newarray .int, 2) := by decide +kernel
abbrev cX4_init : ByteArray := prog_6_method_1_code
def yX4_init : MethodName := ⟨RX4, "<init>", "()V"⟩
def wI_4 : List Cond := Cond.code yX4_init cX4_init 1 none :: lwG
theorem wIc_4 : Cond.code yX4_init cX4_init 1 none ∈ lwG := lwG_1 111 rfl rfl
theorem wIg_4 : GoodIn lwG wI_4 := fun w h => (List.mem_cons.mp h).elim (fun q => by rw [q]; exact ⟨wIc_4, lwG_good wIc_4⟩) (fun h => ⟨h, lwG_good h⟩)
def rwI_4_0 : List (Nat × Instr) := [(0, .aload_n 0), (4, .return_)]
theorem okI_4_0 : okRw cX4_init rwI_4_0 = true := by decide +kernel
theorem dI4_1 : decode cX4_init 1 = .ok (.invokespecial 1, 3) := by decide +kernel
abbrev cX5_init : ByteArray := prog_7_method_1_code
def yX5_init : MethodName := ⟨RX5, "<init>", "(LHayRemembers$Law;)V"⟩
def wI_5 : List Cond := Cond.code yX5_init cX5_init 2 none :: lwG
theorem wIc_5 : Cond.code yX5_init cX5_init 2 none ∈ lwG := lwG_1 169 rfl rfl
theorem wIg_5 : GoodIn lwG wI_5 := fun w h => (List.mem_cons.mp h).elim (fun q => by rw [q]; exact ⟨wIc_5, lwG_good wIc_5⟩) (fun h => ⟨h, lwG_good h⟩)
def rwI_5_0 : List (Nat × Instr) := [(0, .aload_n 0), (4, .aload_n 0), (8, .dup), (12, .putfield 12), (15, .aload_n 0), (16, .bipush 48), (20, .putfield 18), (23, .aload_n 0), (24, .sipush 1728), (29, .putfield 22), (32, .aload_n 0), (33, .bipush 12), (37, .putfield 25), (40, .aload_n 0), (41, .bipush 12), (45, .putfield 28), (48, .aload_n 0), (49, .bipush 8), (53, .putfield 31), (56, .aload_n 0), (57, .bipush 8), (61, .putfield 34), (64, .aload_n 0), (65, .iconst 4), (68, .putfield 37), (71, .aload_n 0), (72, .sipush 4096), (77, .putfield 40), (80, .aload_n 0), (81, .sipush 4096), (86, .putfield 43), (89, .aload_n 0), (90, .aload_n 1), (91, .putfield 46), (94, .return_)]
theorem okI_5_0 : okRw cX5_init rwI_5_0 = true := by decide +kernel
theorem dI5_1 : decode cX5_init 1 = .ok (.invokespecial 3, 3) := by decide +kernel
theorem dI5_5 : decode cX5_init 5 = .ok (.new 9, 3) := by decide +kernel
theorem dI5_9 : decode cX5_init 9 = .ok (.invokespecial 11, 3) := by decide +kernel
theorem dI5_18 : decode cX5_init 18 = .ok (.newarray .int, 2) := by decide +kernel
theorem dI5_27 : decode cX5_init 27 = .ok (.newarray .int, 2) := by decide +kernel
theorem dI5_35 : decode cX5_init 35 = .ok (.newarray .int, 2) := by decide +kernel
theorem dI5_43 : decode cX5_init 43 = .ok (.newarray .int, 2) := by decide +kernel
theorem dI5_51 : decode cX5_init 51 = .ok (.newarray .int, 2) := by decide +kernel
theorem dI5_59 : decode cX5_init 59 = .ok (.newarray .int, 2) := by decide +kernel
theorem dI5_66 : decode cX5_init 66 = .ok (.newarray .int, 2) := by decide +kernel
theorem dI5_75 : decode cX5_init 75 = .ok (.newarray .int, 2) := by decide +kernel
theorem dI5_84 : decode cX5_init 84 = .ok (.newarray .int, 2) := by decide +kernel
abbrev cX6_init : ByteArray := prog_8_method_1_code
def yX6_init : MethodName := ⟨RX6, "<init>", "()V"⟩
def wI_6 : List Cond := Cond.code yX6_init cX6_init 1 none :: lwG
theorem wIc_6 : Cond.code yX6_init cX6_init 1 none ∈ lwG := lwG_2 27 rfl rfl
theorem wIg_6 : GoodIn lwG wI_6 := fun w h => (List.mem_cons.mp h).elim (fun q => by rw [q]; exact ⟨wIc_6, lwG_good wIc_6⟩) (fun h => ⟨h, lwG_good h⟩)
def rwI_6_0 : List (Nat × Instr) := [(0, .aload_n 0), (4, .aload_n 0), (5, .iconst 0), (6, .putfield 11), (9, .aload_n 0), (10, .bipush 60), (14, .putfield 15), (17, .return_)]
theorem okI_6_0 : okRw cX6_init rwI_6_0 = true := by decide +kernel
theorem dI6_1 : decode cX6_init 1 = .ok (.invokespecial 3, 3) := by decide +kernel
theorem dI6_12 : decode cX6_init 12 = .ok (.newarray .long, 2) := by decide +kernel
abbrev cX7_init : ByteArray := prog_9_method_1_code
def yX7_init : MethodName := ⟨RX7, "<init>", "(LHayRemembers$Law;)V"⟩
def wI_7 : List Cond := Cond.code yX7_init cX7_init 2 none :: lwG
theorem wIc_7 : Cond.code yX7_init cX7_init 2 none ∈ lwG := lwG_1 128 rfl rfl
theorem wIg_7 : GoodIn lwG wI_7 := fun w h => (List.mem_cons.mp h).elim (fun q => by rw [q]; exact ⟨wIc_7, lwG_good wIc_7⟩) (fun h => ⟨h, lwG_good h⟩)
def rwI_7_0 : List (Nat × Instr) := [(0, .aload_n 0), (4, .aload_n 0), (8, .dup), (12, .putfield 12), (15, .aload_n 0), (19, .dup), (23, .putfield 21), (26, .aload_n 0), (27, .aload_n 1), (28, .putfield 25), (31, .return_)]
theorem okI_7_0 : okRw cX7_init rwI_7_0 = true := by decide +kernel
theorem dI7_1 : decode cX7_init 1 = .ok (.invokespecial 3, 3) := by decide +kernel
theorem dI7_5 : decode cX7_init 5 = .ok (.new 9, 3) := by decide +kernel
theorem dI7_9 : decode cX7_init 9 = .ok (.invokespecial 11, 3) := by decide +kernel
theorem dI7_16 : decode cX7_init 16 = .ok (.new 18, 3) := by decide +kernel
theorem dI7_20 : decode cX7_init 20 = .ok (.invokespecial 20, 3) := by decide +kernel
abbrev cX8_init : ByteArray := prog_10_method_1_code
def yX8_init : MethodName := ⟨RX8, "<init>", "()V"⟩
def wI_8 : List Cond := Cond.code yX8_init cX8_init 1 none :: lwG
theorem wIc_8 : Cond.code yX8_init cX8_init 1 none ∈ lwG := lwG_1 90 rfl rfl
theorem wIg_8 : GoodIn lwG wI_8 := fun w h => (List.mem_cons.mp h).elim (fun q => by rw [q]; exact ⟨wIc_8, lwG_good wIc_8⟩) (fun h => ⟨h, lwG_good h⟩)
def rwI_8_0 : List (Nat × Instr) := [(0, .aload_n 0), (4, .aload_n 0), (5, .sipush 192), (10, .putfield 9), (13, .aload_n 0), (14, .bipush 48), (18, .putfield 15), (21, .aload_n 0), (22, .iconst 4), (25, .putfield 18), (28, .return_)]
theorem okI_8_0 : okRw cX8_init rwI_8_0 = true := by decide +kernel
theorem dI8_1 : decode cX8_init 1 = .ok (.invokespecial 3, 3) := by decide +kernel
theorem dI8_8 : decode cX8_init 8 = .ok (.newarray .int, 2) := by decide +kernel
theorem dI8_16 : decode cX8_init 16 = .ok (.newarray .int, 2) := by decide +kernel
theorem dI8_23 : decode cX8_init 23 = .ok (.newarray .int, 2) := by decide +kernel
abbrev cX9_init : ByteArray := prog_1_method_1_code
def yX9_init : MethodName := ⟨RX9, "<init>", "()V"⟩
def wI_9 : List Cond := Cond.code yX9_init cX9_init 2 none :: lwG
theorem wIc_9 : Cond.code yX9_init cX9_init 2 none ∈ lwG := lwG_1 25 rfl rfl
theorem wIg_9 : GoodIn lwG wI_9 := fun w h => (List.mem_cons.mp h).elim (fun q => by rw [q]; exact ⟨wIc_9, lwG_good wIc_9⟩) (fun h => ⟨h, lwG_good h⟩)
def rwI_9_0 : List (Nat × Instr) := [(0, .aload_n 0), (4, .aload_n 0), (8, .dup), (12, .putfield 10), (15, .aload_n 0), (19, .dup), (23, .putfield 19), (26, .aload_n 0), (30, .dup), (34, .putfield 26), (37, .aload_n 0), (41, .dup), (45, .putfield 30), (48, .aload_n 0), (52, .dup), (56, .putfield 36), (59, .aload_n 0), (63, .dup), (64, .aload_n 0), (65, .getfield 10), (71, .putfield 45), (74, .aload_n 0), (78, .dup), (79, .aload_n 0), (80, .getfield 10), (86, .putfield 52), (89, .aload_n 0), (93, .dup), (97, .putfield 59), (100, .aload_n 0), (104, .dup), (108, .putfield 66), (111, .aload_n 0), (112, .bipush 6), (117, .putfield 72), (120, .aload_n 0), (121, .iconst 5), (124, .putfield 76), (127, .aload_n 0), (128, .iconst 5)]
theorem okI_9_0 : okRw cX9_init rwI_9_0 = true := by decide +kernel
def rwI_9_1 : List (Nat × Instr) := [(131, .putfield 80), (134, .iconst 0), (135, .istore_n 1), (136, .iload_n 1), (137, .bipush 6), (139, .if_icmp .ge 22), (142, .aload_n 0), (143, .getfield 72), (146, .iload_n 1), (150, .dup), (155, .iinc 1 1), (158, .goto (-22)), (161, .return_)]
theorem okI_9_1 : okRw cX9_init rwI_9_1 = true := by decide +kernel
theorem dI9_1 : decode cX9_init 1 = .ok (.invokespecial 1, 3) := by decide +kernel
theorem dI9_5 : decode cX9_init 5 = .ok (.new 7, 3) := by decide +kernel
theorem dI9_9 : decode cX9_init 9 = .ok (.invokespecial 9, 3) := by decide +kernel
theorem dI9_16 : decode cX9_init 16 = .ok (.new 16, 3) := by decide +kernel
theorem dI9_20 : decode cX9_init 20 = .ok (.invokespecial 18, 3) := by decide +kernel
theorem dI9_27 : decode cX9_init 27 = .ok (.new 23, 3) := by decide +kernel
theorem dI9_31 : decode cX9_init 31 = .ok (.invokespecial 25, 3) := by decide +kernel
theorem dI9_38 : decode cX9_init 38 = .ok (.new 23, 3) := by decide +kernel
theorem dI9_42 : decode cX9_init 42 = .ok (.invokespecial 25, 3) := by decide +kernel
theorem dI9_49 : decode cX9_init 49 = .ok (.new 33, 3) := by decide +kernel
theorem dI9_53 : decode cX9_init 53 = .ok (.invokespecial 35, 3) := by decide +kernel
theorem dI9_60 : decode cX9_init 60 = .ok (.new 40, 3) := by decide +kernel
theorem dI9_68 : decode cX9_init 68 = .ok (.invokespecial 42, 3) := by decide +kernel
theorem dI9_75 : decode cX9_init 75 = .ok (.new 49, 3) := by decide +kernel
theorem dI9_83 : decode cX9_init 83 = .ok (.invokespecial 51, 3) := by decide +kernel
theorem dI9_90 : decode cX9_init 90 = .ok (.new 56, 3) := by decide +kernel
theorem dI9_94 : decode cX9_init 94 = .ok (.invokespecial 58, 3) := by decide +kernel
theorem dI9_101 : decode cX9_init 101 = .ok (.new 63, 3) := by decide +kernel
theorem dI9_105 : decode cX9_init 105 = .ok (.invokespecial 65, 3) := by decide +kernel
theorem dI9_114 : decode cX9_init 114 = .ok (.anewarray 70, 3) := by decide +kernel
theorem dI9_122 : decode cX9_init 122 = .ok (.newarray .int, 2) := by decide +kernel
theorem dI9_129 : decode cX9_init 129 = .ok (.newarray .int, 2) := by decide +kernel
theorem dI9_147 : decode cX9_init 147 = .ok (.new 70, 3) := by decide +kernel
theorem dI9_151 : decode cX9_init 151 = .ok (.invokespecial 83, 3) := by decide +kernel
theorem dI9_154 : decode cX9_init 154 = .ok (.aastore, 1) := by decide +kernel
abbrev cX10_init : ByteArray := prog_12_method_1_code
def yX10_init : MethodName := ⟨RX10, "<init>", "()V"⟩
def wI_10 : List Cond := Cond.code yX10_init cX10_init 1 none :: lwG
theorem wIc_10 : Cond.code yX10_init cX10_init 1 none ∈ lwG := lwG_5 152 rfl rfl
theorem wIg_10 : GoodIn lwG wI_10 := fun w h => (List.mem_cons.mp h).elim (fun q => by rw [q]; exact ⟨wIc_10, lwG_good wIc_10⟩) (fun h => ⟨h, lwG_good h⟩)
def rwI_10_0 : List (Nat × Instr) := [(0, .aload_n 0), (4, .aload_n 0), (5, .iconst 4), (8, .putfield 9), (11, .aload_n 0), (12, .bipush 48), (16, .putfield 15), (19, .aload_n 0), (20, .bipush 48), (24, .putfield 18), (27, .aload_n 0), (28, .bipush 48), (32, .putfield 21), (35, .aload_n 0), (36, .bipush 48), (40, .putfield 24), (43, .aload_n 0), (44, .iconst 3), (47, .dup), (48, .iconst 0), (49, .iconst 0), (50, .iastore), (51, .dup), (52, .iconst 1), (53, .bipush 20), (55, .iastore), (56, .dup), (57, .iconst 2), (58, .iconst 0), (59, .iastore), (60, .putfield 27), (63, .aload_n 0), (64, .bipush 8), (68, .dup), (69, .iconst 0), (70, .bipush 9), (72, .iastore), (73, .dup), (74, .iconst 1), (75, .bipush 9)]
theorem okI_10_0 : okRw cX10_init rwI_10_0 = true := by decide +kernel
def rwI_10_1 : List (Nat × Instr) := [(77, .iastore), (78, .dup), (79, .iconst 2), (80, .bipush 9), (82, .iastore), (83, .dup), (84, .iconst 3), (85, .bipush 9), (87, .iastore), (88, .dup), (89, .iconst 4), (90, .bipush 9), (92, .iastore), (93, .dup), (94, .iconst 5), (95, .bipush 9), (97, .iastore), (98, .dup), (99, .bipush 6), (101, .bipush 9), (103, .iastore), (104, .dup), (105, .bipush 7), (107, .bipush 9), (109, .iastore), (110, .putfield 30), (113, .aload_n 0), (114, .bipush 40), (118, .putfield 33), (121, .aload_n 0), (122, .bipush 40), (126, .putfield 36), (129, .aload_n 0), (130, .bipush 40), (134, .putfield 39), (137, .aload_n 0), (138, .bipush 40), (142, .putfield 42), (145, .aload_n 0), (146, .bipush 120)]
theorem okI_10_1 : okRw cX10_init rwI_10_1 = true := by decide +kernel
def rwI_10_2 : List (Nat × Instr) := [(150, .putfield 45), (153, .aload_n 0), (154, .sipush 260), (159, .putfield 49), (162, .aload_n 0), (163, .sipush 260), (168, .putfield 52), (171, .aload_n 0), (172, .iconst 2), (175, .putfield 55), (178, .aload_n 0), (179, .bipush 122), (183, .putfield 58), (186, .aload_n 0), (187, .bipush 122), (191, .putfield 62), (194, .aload_n 0), (195, .bipush 6), (199, .putfield 65), (202, .aload_n 0), (203, .sipush 130), (208, .putfield 68), (211, .aload_n 0), (212, .iconst 4), (215, .putfield 71), (218, .aload_n 0), (219, .bipush 48), (223, .putfield 74), (226, .aload_n 0), (227, .bipush 48), (231, .putfield 77), (234, .aload_n 0), (235, .bipush 48), (239, .putfield 80), (242, .aload_n 0), (243, .bipush 48), (247, .putfield 83), (250, .aload_n 0), (251, .bipush 7), (255, .putfield 86)]
theorem okI_10_2 : okRw cX10_init rwI_10_2 = true := by decide +kernel
def rwI_10_3 : List (Nat × Instr) := [(258, .aload_n 0), (259, .bipush 7), (263, .putfield 89), (266, .aload_n 0), (267, .sipush 4096), (272, .putfield 92), (275, .aload_n 0), (276, .sipush 4096), (281, .putfield 95), (284, .aload_n 0), (285, .iconst 4), (288, .putfield 98), (291, .aload_n 0), (292, .iconst 4), (295, .putfield 101), (298, .aload_n 0), (299, .iconst 5), (302, .putfield 104), (305, .aload_n 0), (306, .iconst 4), (309, .putfield 107), (312, .aload_n 0), (313, .bipush 48), (317, .putfield 110), (320, .aload_n 0), (321, .bipush 48), (325, .putfield 113), (328, .aload_n 0), (329, .bipush 48), (333, .putfield 116), (336, .aload_n 0), (337, .bipush 48), (341, .putfield 119), (344, .aload_n 0), (345, .iconst 5), (348, .putfield 122), (351, .aload_n 0), (352, .bipush 50), (356, .putfield 125), (359, .aload_n 0)]
theorem okI_10_3 : okRw cX10_init rwI_10_3 = true := by decide +kernel
def rwI_10_4 : List (Nat × Instr) := [(360, .bipush 24), (364, .putfield 128), (367, .aload_n 0), (368, .bipush 6), (372, .dup), (373, .iconst 0), (374, .iconst (-1)), (375, .iastore), (376, .dup), (377, .iconst 1), (378, .iconst (-1)), (379, .iastore), (380, .dup), (381, .iconst 2), (382, .iconst (-1)), (383, .iastore), (384, .dup), (385, .iconst 3), (386, .iconst (-1)), (387, .iastore), (388, .dup), (389, .iconst 4), (390, .iconst (-1)), (391, .iastore), (392, .dup), (393, .iconst 5), (394, .iconst (-1)), (395, .iastore), (396, .putfield 131), (399, .aload_n 0), (400, .bipush 6), (404, .putfield 134), (407, .aload_n 0), (408, .sipush 360), (413, .putfield 137), (416, .aload_n 0), (417, .bipush 60), (421, .putfield 141), (424, .return_)]
theorem okI_10_4 : okRw cX10_init rwI_10_4 = true := by decide +kernel
theorem dI10_1 : decode cX10_init 1 = .ok (.invokespecial 3, 3) := by decide +kernel
theorem dI10_6 : decode cX10_init 6 = .ok (.newarray .int, 2) := by decide +kernel
theorem dI10_14 : decode cX10_init 14 = .ok (.newarray .int, 2) := by decide +kernel
theorem dI10_22 : decode cX10_init 22 = .ok (.newarray .int, 2) := by decide +kernel
theorem dI10_30 : decode cX10_init 30 = .ok (.newarray .int, 2) := by decide +kernel
theorem dI10_38 : decode cX10_init 38 = .ok (.newarray .int, 2) := by decide +kernel
theorem dI10_45 : decode cX10_init 45 = .ok (.newarray .int, 2) := by decide +kernel
theorem dI10_66 : decode cX10_init 66 = .ok (.newarray .int, 2) := by decide +kernel
theorem dI10_116 : decode cX10_init 116 = .ok (.newarray .int, 2) := by decide +kernel
theorem dI10_124 : decode cX10_init 124 = .ok (.newarray .int, 2) := by decide +kernel
theorem dI10_132 : decode cX10_init 132 = .ok (.newarray .int, 2) := by decide +kernel
theorem dI10_140 : decode cX10_init 140 = .ok (.newarray .int, 2) := by decide +kernel
theorem dI10_148 : decode cX10_init 148 = .ok (.newarray .byte, 2) := by decide +kernel
theorem dI10_157 : decode cX10_init 157 = .ok (.newarray .byte, 2) := by decide +kernel
theorem dI10_166 : decode cX10_init 166 = .ok (.newarray .int, 2) := by decide +kernel
theorem dI10_173 : decode cX10_init 173 = .ok (.newarray .int, 2) := by decide +kernel
theorem dI10_181 : decode cX10_init 181 = .ok (.newarray .short, 2) := by decide +kernel
theorem dI10_189 : decode cX10_init 189 = .ok (.newarray .short, 2) := by decide +kernel
theorem dI10_197 : decode cX10_init 197 = .ok (.newarray .int, 2) := by decide +kernel
theorem dI10_206 : decode cX10_init 206 = .ok (.newarray .int, 2) := by decide +kernel
theorem dI10_213 : decode cX10_init 213 = .ok (.newarray .int, 2) := by decide +kernel
theorem dI10_221 : decode cX10_init 221 = .ok (.newarray .int, 2) := by decide +kernel
theorem dI10_229 : decode cX10_init 229 = .ok (.newarray .int, 2) := by decide +kernel
theorem dI10_237 : decode cX10_init 237 = .ok (.newarray .int, 2) := by decide +kernel
theorem dI10_245 : decode cX10_init 245 = .ok (.newarray .int, 2) := by decide +kernel
theorem dI10_253 : decode cX10_init 253 = .ok (.newarray .int, 2) := by decide +kernel
theorem dI10_261 : decode cX10_init 261 = .ok (.newarray .int, 2) := by decide +kernel
theorem dI10_270 : decode cX10_init 270 = .ok (.newarray .byte, 2) := by decide +kernel
theorem dI10_279 : decode cX10_init 279 = .ok (.newarray .byte, 2) := by decide +kernel
theorem dI10_286 : decode cX10_init 286 = .ok (.newarray .int, 2) := by decide +kernel
theorem dI10_293 : decode cX10_init 293 = .ok (.newarray .int, 2) := by decide +kernel
theorem dI10_300 : decode cX10_init 300 = .ok (.newarray .int, 2) := by decide +kernel
theorem dI10_307 : decode cX10_init 307 = .ok (.newarray .int, 2) := by decide +kernel
theorem dI10_315 : decode cX10_init 315 = .ok (.newarray .int, 2) := by decide +kernel
theorem dI10_323 : decode cX10_init 323 = .ok (.newarray .int, 2) := by decide +kernel
theorem dI10_331 : decode cX10_init 331 = .ok (.newarray .int, 2) := by decide +kernel
theorem dI10_339 : decode cX10_init 339 = .ok (.newarray .int, 2) := by decide +kernel
theorem dI10_346 : decode cX10_init 346 = .ok (.newarray .int, 2) := by decide +kernel
theorem dI10_354 : decode cX10_init 354 = .ok (.newarray .int, 2) := by decide +kernel
theorem dI10_362 : decode cX10_init 362 = .ok (.newarray .int, 2) := by decide +kernel
theorem dI10_370 : decode cX10_init 370 = .ok (.newarray .int, 2) := by decide +kernel
theorem dI10_402 : decode cX10_init 402 = .ok (.newarray .int, 2) := by decide +kernel
theorem dI10_411 : decode cX10_init 411 = .ok (.newarray .long, 2) := by decide +kernel
theorem dI10_419 : decode cX10_init 419 = .ok (.newarray .long, 2) := by decide +kernel
