/-! rows of the constructors -/
def okRw (b : ByteArray) (L : List (Nat × Instr)) : Bool := L.all fun q => ck q.2 ((b.data.toList.map UInt8.toNat).drop q.1)
theorem okRw_at {b : ByteArray} {L : List (Nat × Instr)} (h : okRw b L = true) (k : Nat) {pc : Nat} {i : Instr} (hk : L[k]? = some (pc, i)) : decode b pc = .ok (i, ilen i) :=
  ck_ok (l := (b.data.toList.map UInt8.toNat).drop pc) (fun j x hj => at1_of (by rw [List.getElem?_drop] at hj; exact hj)) (List.all_eq_true.mp h _ (List.mem_of_getElem? hk))
abbrev cX0_init : ByteArray := prog_2_method_1_code
def yX0_init : MethodName := ⟨RX0, "<init>", "()V"⟩
def wI_0 : List Cond := Cond.code yX0_init cX0_init 1 none :: lwG
theorem wIc_0 : Cond.code yX0_init cX0_init 1 none ∈ lwG := lwG_1 239 rfl rfl
theorem wIg_0 : GoodIn lwG wI_0 := fun w h => (List.mem_cons.mp h).elim (fun q => by rw [q]; exact ⟨wIc_0, lwG_good wIc_0⟩) (fun h => ⟨h, lwG_good h⟩)
def rwI_0_0 : List (Nat × Instr) := [(0, .aload_n 0), (4, .aload_n 0), (5, .bipush 50), (9, .putfield 9), (12, .aload_n 0), (13, .bipush 24), (17, .putfield 15), (20, .return_)]
theorem okI_0_0 : okRw cX0_init rwI_0_0 = true := by decide +kernel
theorem dI0_1 : decode cX0_init 1 = .ok (.invokespecial 3, 3) := by decide +kernel
theorem dI0_7 : decode cX0_init 7 = .ok (.newarray .int, 2) := by decide +kernel
theorem dI0_15 : decode cX0_init 15 = .ok (.newarray .int, 2) := by decide +kernel
abbrev cX1_init : ByteArray := prog_3_method_1_code
def yX1_init : MethodName := ⟨RX1, "<init>", "()V"⟩
def wI_1 : List Cond := Cond.code yX1_init cX1_init 1 none :: lwG
theorem wIc_1 : Cond.code yX1_init cX1_init 1 none ∈ lwG := lwG_1 223 rfl rfl
theorem wIg_1 : GoodIn lwG wI_1 := fun w h => (List.mem_cons.mp h).elim (fun q => by rw [q]; exact ⟨wIc_1, lwG_good wIc_1⟩) (fun h => ⟨h, lwG_good h⟩)
def rwI_1_0 : List (Nat × Instr) := [(0, .aload_n 0), (4, .aload_n 0), (5, .sipush 160), (10, .putfield 9), (13, .return_)]
theorem okI_1_0 : okRw cX1_init rwI_1_0 = true := by decide +kernel
theorem dI1_1 : decode cX1_init 1 = .ok (.invokespecial 1, 3) := by decide +kernel
theorem dI1_8 : decode cX1_init 8 = .ok (.newarray .int, 2) := by decide +kernel
abbrev cX2_init : ByteArray := prog_4_method_1_code
def yX2_init : MethodName := ⟨RX2, "<init>", "()V"⟩
def wI_2 : List Cond := Cond.code yX2_init cX2_init 2 none :: lwG
theorem wIc_2 : Cond.code yX2_init cX2_init 2 none ∈ lwG := lwG_1 32 rfl rfl
theorem wIg_2 : GoodIn lwG wI_2 := fun w h => (List.mem_cons.mp h).elim (fun q => by rw [q]; exact ⟨wIc_2, lwG_good wIc_2⟩) (fun h => ⟨h, lwG_good h⟩)
def rwI_2_0 : List (Nat × Instr) := [(0, .aload_n 0), (4, .aload_n 0), (5, .bipush 20), (7, .putfield 7), (10, .aload_n 0), (11, .bipush 8), (15, .putfield 13), (18, .aload_n 0), (19, .bipush 121), (23, .putfield 19), (26, .aload_n 0), (27, .bipush 64), (31, .putfield 22), (34, .aload_n 0), (35, .bipush 6), (39, .putfield 25), (42, .iconst 0), (43, .istore_n 1), (44, .iload_n 1), (45, .aload_n 0), (46, .getfield 13), (49, .arraylength), (50, .if_icmp .ge 17), (53, .aload_n 0), (54, .getfield 13), (57, .iload_n 1), (58, .bipush 9), (60, .iastore), (61, .iinc 1 1), (64, .goto (-20)), (67, .return_)]
theorem okI_2_0 : okRw cX2_init rwI_2_0 = true := by decide +kernel
theorem dI2_1 : decode cX2_init 1 = .ok (.invokespecial 1, 3) := by decide +kernel
theorem dI2_13 : decode cX2_init 13 = .ok (.newarray .int, 2) := by decide +kernel
theorem dI2_21 : decode cX2_init 21 = .ok (.newarray .int, 2) := by decide +kernel
theorem dI2_29 : decode cX2_init 29 = .ok (.newarray .int, 2) := by decide +kernel
theorem dI2_37 : decode cX2_init 37 = .ok (.newarray .int, 2) := by decide +kernel
abbrev cX3_init : ByteArray := prog_5_method_1_code
def yX3_init : MethodName := ⟨RX3, "<init>", "()V"⟩
def wI_3 : List Cond := Cond.code yX3_init cX3_init 1 none :: lwG
theorem wIc_3 : Cond.code yX3_init cX3_init 1 none ∈ lwG := lwG_1 64 rfl rfl
theorem wIg_3 : GoodIn lwG wI_3 := fun w h => (List.mem_cons.mp h).elim (fun q => by rw [q]; exact ⟨wIc_3, lwG_good wIc_3⟩) (fun h => ⟨h, lwG_good h⟩)
def rwI_3_0 : List (Nat × Instr) := [(0, .aload_n 0), (4, .aload_n 0), (5, .bipush 120), (9, .putfield 9), (12, .aload_n 0), (13, .bipush 121), (17, .putfield 13), (20, .return_)]
theorem okI_3_0 : okRw cX3_init rwI_3_0 = true := by decide +kernel
theorem dI3_1 : decode cX3_init 1 = .ok (.invokespecial 3, 3) := by decide +kernel
theorem dI3_7 : decode cX3_init 7 = .ok (.newarray .int, 2) := by decide +kernel
theorem dI3_15 : decode cX3_init 15 = .ok (.newarray .int, 2) := by decide +kernel
abbrev cX4_init : ByteArray := prog_6_method_1_code
def yX4_init : MethodName := ⟨RX4, "<init>", "()V"⟩
def wI_4 : List Cond := Cond.code yX4_init cX4_init 1 none :: lwG
theorem wIc_4 : Cond.code yX4_init cX4_init 1 none ∈ lwG := lwG_1 109 rfl rfl
theorem wIg_4 : GoodIn lwG wI_4 := fun w h => (List.mem_cons.mp h).elim (fun q => by rw [q]; exact ⟨wIc_4, lwG_good wIc_4⟩) (fun h => ⟨h, lwG_good h⟩)
def rwI_4_0 : List (Nat × Instr) := [(0, .aload_n 0), (4, .return_)]
theorem okI_4_0 : okRw cX4_init rwI_4_0 = true := by decide +kernel
theorem dI4_1 : decode cX4_init 1 = .ok (.invokespecial 1, 3) := by decide +kernel
abbrev cX5_init : ByteArray := prog_7_method_1_code
def yX5_init : MethodName := ⟨RX5, "<init>", "(LHayRemembers$Law;)V"⟩
def wI_5 : List Cond := Cond.code yX5_init cX5_init 2 none :: lwG
theorem wIc_5 : Cond.code yX5_init cX5_init 2 none ∈ lwG := lwG_1 167 rfl rfl
theorem wIg_5 : GoodIn lwG wI_5 := fun w h => (List.mem_cons.mp h).elim (fun q => by rw [q]; exact ⟨wIc_5, lwG_good wIc_5⟩) (fun h => ⟨h, lwG_good h⟩)
def rwI_5_0 : List (Nat × Instr) := [(0, .aload_n 0), (4, .aload_n 0), (8, .dup), (12, .putfield 12), (15, .aload_n 0), (16, .bipush 48), (20, .putfield 18), (23, .aload_n 0), (24, .sipush 1728), (29, .putfield 22), (32, .aload_n 0), (33, .bipush 12), (37, .putfield 25), (40, .aload_n 0), (41, .bipush 12), (45, .putfield 28), (48, .aload_n 0), (49, .bipush 8), (53, .putfield 31), (56, .aload_n 0), (57, .bipush 8), (61, .putfield 34), (64, .aload_n 0), (65, .iconst 4), (68, .putfield 37), (71, .aload_n 0), (72, .sipush 4096), (77, .putfield 40), (80, .aload_n 0), (81, .sipush 4096), (86, .putfield 43), (89, .aload_n 0), (90, .aload_n 1), (91, .putfield 46), (94, .return_)]
theorem okI_5_0 : okRw cX5_init rwI_5_0 = true := by decide +kernel
theorem dI5_1 : decode cX5_init 1 = .ok (.invokespecial 3, 3) := by decide +kernel
theorem dI5_5 : decode cX5_init 5 = .ok (.new 9, 3) := by decide +kernel
theorem dI5_9 : decode cX5_init 9 = .ok (.invokespecial 11, 3) := by decide +kernel
theorem dI5_18 : decode cX5_init 18 = .ok (.newarray .int, 2) := by decide +kernel
theorem dI5_27 : decode cX5_init 27 = .ok (.newarray .int, 2) := by decide +kernel
theorem dI5_35 : decode cX5_init 35 = .ok (.newarray .int, 2) := by decide +kernel
theorem dI5_43 : decode cX5_init 43 = .ok (.newarray .int, 2) := by decide +kernel
theorem dI5_51 : decode cX5_init 51 = .ok (.newarray .int, 2) := by decide +kernel
theorem dI5_59 : decode cX5_init 59 = .ok (.newarray .int, 2) := by decide +kernel
theorem dI5_66 : decode cX5_init 66 = .ok (.newarray .int, 2) := by decide +kernel
theorem dI5_75 : decode cX5_init 75 = .ok (.newarray .int, 2) := by decide +kernel
theorem dI5_84 : decode cX5_init 84 = .ok (.newarray .int, 2) := by decide +kernel
abbrev cX6_init : ByteArray := prog_8_method_1_code
def yX6_init : MethodName := ⟨RX6, "<init>", "()V"⟩
def wI_6 : List Cond := Cond.code yX6_init cX6_init 1 none :: lwG
theorem wIc_6 : Cond.code yX6_init cX6_init 1 none ∈ lwG := lwG_2 23 rfl rfl
theorem wIg_6 : GoodIn lwG wI_6 := fun w h => (List.mem_cons.mp h).elim (fun q => by rw [q]; exact ⟨wIc_6, lwG_good wIc_6⟩) (fun h => ⟨h, lwG_good h⟩)
def rwI_6_0 : List (Nat × Instr) := [(0, .aload_n 0), (4, .aload_n 0), (5, .iconst 0), (6, .putfield 11), (9, .aload_n 0), (10, .bipush 60), (14, .putfield 15), (17, .return_)]
theorem okI_6_0 : okRw cX6_init rwI_6_0 = true := by decide +kernel
theorem dI6_1 : decode cX6_init 1 = .ok (.invokespecial 3, 3) := by decide +kernel
theorem dI6_12 : decode cX6_init 12 = .ok (.newarray .long, 2) := by decide +kernel
abbrev cX7_init : ByteArray := prog_9_method_1_code
def yX7_init : MethodName := ⟨RX7, "<init>", "(LHayRemembers$Law;)V"⟩
def wI_7 : List Cond := Cond.code yX7_init cX7_init 2 none :: lwG
theorem wIc_7 : Cond.code yX7_init cX7_init 2 none ∈ lwG := lwG_1 126 rfl rfl
theorem wIg_7 : GoodIn lwG wI_7 := fun w h => (List.mem_cons.mp h).elim (fun q => by rw [q]; exact ⟨wIc_7, lwG_good wIc_7⟩) (fun h => ⟨h, lwG_good h⟩)
def rwI_7_0 : List (Nat × Instr) := [(0, .aload_n 0), (4, .aload_n 0), (8, .dup), (12, .putfield 12), (15, .aload_n 0), (19, .dup), (23, .putfield 21), (26, .aload_n 0), (27, .aload_n 1), (28, .putfield 25), (31, .return_)]
theorem okI_7_0 : okRw cX7_init rwI_7_0 = true := by decide +kernel
theorem dI7_1 : decode cX7_init 1 = .ok (.invokespecial 3, 3) := by decide +kernel
theorem dI7_5 : decode cX7_init 5 = .ok (.new 9, 3) := by decide +kernel
theorem dI7_9 : decode cX7_init 9 = .ok (.invokespecial 11, 3) := by decide +kernel
theorem dI7_16 : decode cX7_init 16 = .ok (.new 18, 3) := by decide +kernel
theorem dI7_20 : decode cX7_init 20 = .ok (.invokespecial 20, 3) := by decide +kernel
abbrev cX8_init : ByteArray := prog_10_method_1_code
def yX8_init : MethodName := ⟨RX8, "<init>", "()V"⟩
def wI_8 : List Cond := Cond.code yX8_init cX8_init 1 none :: lwG
theorem wIc_8 : Cond.code yX8_init cX8_init 1 none ∈ lwG := lwG_1 89 rfl rfl
theorem wIg_8 : GoodIn lwG wI_8 := fun w h => (List.mem_cons.mp h).elim (fun q => by rw [q]; exact ⟨wIc_8, lwG_good wIc_8⟩) (fun h => ⟨h, lwG_good h⟩)
def rwI_8_0 : List (Nat × Instr) := [(0, .aload_n 0), (4, .aload_n 0), (5, .sipush 192), (10, .putfield 9), (13, .aload_n 0), (14, .bipush 48), (18, .putfield 15), (21, .aload_n 0), (22, .iconst 4), (25, .putfield 18), (28, .return_)]
theorem okI_8_0 : okRw cX8_init rwI_8_0 = true := by decide +kernel
theorem dI8_1 : decode cX8_init 1 = .ok (.invokespecial 3, 3) := by decide +kernel
theorem dI8_8 : decode cX8_init 8 = .ok (.newarray .int, 2) := by decide +kernel
theorem dI8_16 : decode cX8_init 16 = .ok (.newarray .int, 2) := by decide +kernel
theorem dI8_23 : decode cX8_init 23 = .ok (.newarray .int, 2) := by decide +kernel
abbrev cX9_init : ByteArray := prog_1_method_1_code
def yX9_init : MethodName := ⟨RX9, "<init>", "()V"⟩
def wI_9 : List Cond := Cond.code yX9_init cX9_init 2 none :: lwG
theorem wIc_9 : Cond.code yX9_init cX9_init 2 none ∈ lwG := lwG_1 24 rfl rfl
theorem wIg_9 : GoodIn lwG wI_9 := fun w h => (List.mem_cons.mp h).elim (fun q => by rw [q]; exact ⟨wIc_9, lwG_good wIc_9⟩) (fun h => ⟨h, lwG_good h⟩)
def rwI_9_0 : List (Nat × Instr) := [(0, .aload_n 0), (4, .aload_n 0), (8, .dup), (12, .putfield 10), (15, .aload_n 0), (19, .dup), (23, .putfield 19), (26, .aload_n 0), (30, .dup), (34, .putfield 26), (37, .aload_n 0), (41, .dup), (45, .putfield 30), (48, .aload_n 0), (52, .dup), (56, .putfield 36), (59, .aload_n 0), (63, .dup), (64, .aload_n 0), (65, .getfield 10), (71, .putfield 45), (74, .aload_n 0), (78, .dup), (79, .aload_n 0), (80, .getfield 10), (86, .putfield 52), (89, .aload_n 0), (93, .dup), (97, .putfield 59), (100, .aload_n 0), (104, .dup), (108, .putfield 66), (111, .aload_n 0), (112, .bipush 6), (117, .putfield 72), (120, .aload_n 0), (121, .iconst 5), (124, .putfield 76), (127, .aload_n 0), (128, .iconst 5)]
theorem okI_9_0 : okRw cX9_init rwI_9_0 = true := by decide +kernel
def rwI_9_1 : List (Nat × Instr) := [(131, .putfield 80), (134, .iconst 0), (135, .istore_n 1), (136, .iload_n 1), (137, .bipush 6), (139, .if_icmp .ge 22), (142, .aload_n 0), (143, .getfield 72), (146, .iload_n 1), (150, .dup), (155, .iinc 1 1), (158, .goto (-22)), (161, .return_)]
theorem okI_9_1 : okRw cX9_init rwI_9_1 = true := by decide +kernel
theorem dI9_1 : decode cX9_init 1 = .ok (.invokespecial 1, 3) := by decide +kernel
theorem dI9_5 : decode cX9_init 5 = .ok (.new 7, 3) := by decide +kernel
theorem dI9_9 : decode cX9_init 9 = .ok (.invokespecial 9, 3) := by decide +kernel
theorem dI9_16 : decode cX9_init 16 = .ok (.new 16, 3) := by decide +kernel
theorem dI9_20 : decode cX9_init 20 = .ok (.invokespecial 18, 3) := by decide +kernel
theorem dI9_27 : decode cX9_init 27 = .ok (.new 23, 3) := by decide +kernel
theorem dI9_31 : decode cX9_init 31 = .ok (.invokespecial 25, 3) := by decide +kernel
theorem dI9_38 : decode cX9_init 38 = .ok (.new 23, 3) := by decide +kernel
theorem dI9_42 : decode cX9_init 42 = .ok (.invokespecial 25, 3) := by decide +kernel
theorem dI9_49 : decode cX9_init 49 = .ok (.new 33, 3) := by decide +kernel
theorem dI9_53 : decode cX9_init 53 = .ok (.invokespecial 35, 3) := by decide +kernel
theorem dI9_60 : decode cX9_init 60 = .ok (.new 40, 3) := by decide +kernel
theorem dI9_68 : decode cX9_init 68 = .ok (.invokespecial 42, 3) := by decide +kernel
theorem dI9_75 : decode cX9_init 75 = .ok (.new 49, 3) := by decide +kernel
theorem dI9_83 : decode cX9_init 83 = .ok (.invokespecial 51, 3) := by decide +kernel
theorem dI9_90 : decode cX9_init 90 = .ok (.new 56, 3) := by decide +kernel
theorem dI9_94 : decode cX9_init 94 = .ok (.invokespecial 58, 3) := by decide +kernel
theorem dI9_101 : decode cX9_init 101 = .ok (.new 63, 3) := by decide +kernel
theorem dI9_105 : decode cX9_init 105 = .ok (.invokespecial 65, 3) := by decide +kernel
theorem dI9_114 : decode cX9_init 114 = .ok (.anewarray 70, 3) := by decide +kernel
theorem dI9_122 : decode cX9_init 122 = .ok (.newarray .int, 2) := by decide +kernel
theorem dI9_129 : decode cX9_init 129 = .ok (.newarray .int, 2) := by decide +kernel
theorem dI9_147 : decode cX9_init 147 = .ok (.new 70, 3) := by decide +kernel
theorem dI9_151 : decode cX9_init 151 = .ok (.invokespecial 83, 3) := by decide +kernel
theorem dI9_154 : decode cX9_init 154 = .ok (.aastore, 1) := by decide +kernel
