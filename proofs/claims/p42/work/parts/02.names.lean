-- names, code, layout: written by program (wip/whole/gen.py) out of claim/NAMES.whole.lean.txt and claim/Statement.lean
def RX0 : String := "HayRemembers$Acts"
def TX0 : u_T := fun k => match k with
  | 0 => ("HayRemembers$Acts", "kinds", "[I", true)
  | 1 => ("HayRemembers$Acts", "bodies", "I", false)
  | 2 => ("HayRemembers$Acts", "ran", "[I", true)
  | 3 => ("HayRemembers$Acts", "runs", "I", false)
  | 4 => ("HayRemembers$Acts", "own", "I", false)
  | _ => ("HayRemembers$Acts", "number", "I", false)
def tyX0 : Nat → FieldType := fun k => match k with
  | 0 => .array .int
  | 1 => .int
  | 2 => .array .int
  | 3 => .int
  | 4 => .int
  | _ => .int
abbrev wsX00 : List Cond := u_ws RX0 TX0 6
theorem nmX0 : ∀ a, a < 6 → ∀ b, b < 6 → a ≠ b → (TX0 a).2.1 ≠ (TX0 b).2.1 := by decide +kernel
theorem tyX0_ok : ∀ k, k < 6 → parseFieldDescriptor (TX0 k).2.2.1 = some (tyX0 k) := by decide +kernel
def RX1 : String := "HayRemembers$Changes"
def TX1 : u_T := fun k => match k with
  | 0 => ("HayRemembers$Changes", "parts", "[I", true)
  | 1 => ("HayRemembers$Changes", "done", "I", false)
  | _ => ("HayRemembers$Changes", "all", "I", false)
def tyX1 : Nat → FieldType := fun k => match k with
  | 0 => .array .int
  | 1 => .int
  | _ => .int
abbrev wsX10 : List Cond := u_ws RX1 TX1 3
theorem nmX1 : ∀ a, a < 3 → ∀ b, b < 3 → a ≠ b → (TX1 a).2.1 ≠ (TX1 b).2.1 := by decide +kernel
theorem tyX1_ok : ∀ k, k < 3 → parseFieldDescriptor (TX1 k).2.2.1 = some (tyX1 k) := by decide +kernel
def RX2 : String := "HayRemembers$Law"
def TX2 : u_T := fun k => match k with
  | 0 => ("HayRemembers$Law", "cold", "I", false)
  | 1 => ("HayRemembers$Law", "stand", "I", false)
  | 2 => ("HayRemembers$Law", "doors", "[I", true)
  | 3 => ("HayRemembers$Law", "code", "[I", true)
  | 4 => ("HayRemembers$Law", "size", "I", false)
  | 5 => ("HayRemembers$Law", "stack", "[I", true)
  | _ => ("HayRemembers$Law", "named", "[I", true)
def tyX2 : Nat → FieldType := fun k => match k with
  | 0 => .int
  | 1 => .int
  | 2 => .array .int
  | 3 => .array .int
  | 4 => .int
  | 5 => .array .int
  | _ => .array .int
abbrev wsX20 : List Cond := u_ws RX2 TX2 7
theorem nmX2 : ∀ a, a < 7 → ∀ b, b < 7 → a ≠ b → (TX2 a).2.1 ≠ (TX2 b).2.1 := by decide +kernel
theorem tyX2_ok : ∀ k, k < 7 → parseFieldDescriptor (TX2 k).2.2.1 = some (tyX2 k) := by decide +kernel
def RX3 : String := "HayRemembers$LawReader"
def TX3 : u_T := fun k => match k with
  | 0 => ("HayRemembers$LawReader", "tape", "[I", true)
  | 1 => ("HayRemembers$LawReader", "length", "I", false)
  | 2 => ("HayRemembers$LawReader", "code", "[I", true)
  | 3 => ("HayRemembers$LawReader", "size", "I", false)
  | 4 => ("HayRemembers$LawReader", "at", "I", false)
  | _ => ("HayRemembers$LawReader", "fault", "I", false)
def tyX3 : Nat → FieldType := fun k => match k with
  | 0 => .array .int
  | 1 => .int
  | 2 => .array .int
  | 3 => .int
  | 4 => .int
  | _ => .int
abbrev wsX30 : List Cond := u_ws RX3 TX3 6
theorem nmX3 : ∀ a, a < 6 → ∀ b, b < 6 → a ≠ b → (TX3 a).2.1 ≠ (TX3 b).2.1 := by decide +kernel
theorem tyX3_ok : ∀ k, k < 6 → parseFieldDescriptor (TX3 k).2.2.1 = some (tyX3 k) := by decide +kernel
def RX4 : String := "HayRemembers$Lean"
def TX4 : u_T := fun k => match k with
  | 0 => ("HayRemembers$Lean", "x", "I", false)
  | _ => ("HayRemembers$Lean", "y", "I", false)
def tyX4 : Nat → FieldType := fun k => match k with
  | 0 => .int
  | _ => .int
abbrev wsX40 : List Cond := u_ws RX4 TX4 2
theorem nmX4 : ∀ a, a < 2 → ∀ b, b < 2 → a ≠ b → (TX4 a).2.1 ≠ (TX4 b).2.1 := by decide +kernel
theorem tyX4_ok : ∀ k, k < 2 → parseFieldDescriptor (TX4 k).2.2.1 = some (tyX4 k) := by decide +kernel
def RX5 : String := "HayRemembers$Search"
def TX5 : u_T := fun k => match k with
  | 0 => ("HayRemembers$Search", "found", "I", false)
  | 1 => ("HayRemembers$Search", "firstWay", "I", false)
  | 2 => ("HayRemembers$Search", "law", "LHayRemembers$Law;", true)
  | 3 => ("HayRemembers$Search", "sum", "LHayRemembers$Lean;", true)
  | 4 => ("HayRemembers$Search", "numbers", "[I", true)
  | 5 => ("HayRemembers$Search", "size", "I", false)
  | 6 => ("HayRemembers$Search", "selling", "Z", false)
  | 7 => ("HayRemembers$Search", "amounts", "[I", true)
  | 8 => ("HayRemembers$Search", "path", "[I", true)
  | 9 => ("HayRemembers$Search", "best", "[I", true)
  | 10 => ("HayRemembers$Search", "baseX", "[I", true)
  | 11 => ("HayRemembers$Search", "baseY", "[I", true)
  | 12 => ("HayRemembers$Search", "turn", "[I", true)
  | 13 => ("HayRemembers$Search", "queue", "[I", true)
  | _ => ("HayRemembers$Search", "came", "[I", true)
def tyX5 : Nat → FieldType := fun k => match k with
  | 0 => .int
  | 1 => .int
  | 2 => .object "HayRemembers$Law"
  | 3 => .object "HayRemembers$Lean"
  | 4 => .array .int
  | 5 => .int
  | 6 => .boolean
  | 7 => .array .int
  | 8 => .array .int
  | 9 => .array .int
  | 10 => .array .int
  | 11 => .array .int
  | 12 => .array .int
  | 13 => .array .int
  | _ => .array .int
abbrev wsX50 : List Cond := u_ws RX5 TX5 15
theorem nmX5 : ∀ a, a < 15 → ∀ b, b < 15 → a ≠ b → (TX5 a).2.1 ≠ (TX5 b).2.1 := by decide +kernel
theorem tyX5_ok : ∀ k, k < 15 → parseFieldDescriptor (TX5 k).2.2.1 = some (tyX5 k) := by decide +kernel
def RX6 : String := "HayRemembers$Shelf"
def TX6 : u_T := fun k => match k with
  | 0 => ("HayRemembers$Shelf", "holds", "I", false)
  | 1 => ("HayRemembers$Shelf", "body", "I", false)
  | 2 => ("HayRemembers$Shelf", "sort", "I", false)
  | 3 => ("HayRemembers$Shelf", "length", "I", false)
  | _ => ("HayRemembers$Shelf", "cells", "[J", true)
def tyX6 : Nat → FieldType := fun k => match k with
  | 0 => .int
  | 1 => .int
  | 2 => .int
  | 3 => .int
  | _ => .array .long
abbrev wsX60 : List Cond := u_ws RX6 TX6 5
theorem nmX6 : ∀ a, a < 5 → ∀ b, b < 5 → a ≠ b → (TX6 a).2.1 ≠ (TX6 b).2.1 := by decide +kernel
theorem tyX6_ok : ∀ k, k < 5 → parseFieldDescriptor (TX6 k).2.2.1 = some (tyX6 k) := by decide +kernel
def RX7 : String := "HayRemembers$Winter"
def TX7 : u_T := fun k => match k with
  | 0 => ("HayRemembers$Winter", "yard", "LHayRemembers$Yard;", true)
  | 1 => ("HayRemembers$Winter", "made", "I", false)
  | 2 => ("HayRemembers$Winter", "blown", "I", false)
  | 3 => ("HayRemembers$Winter", "firstDoor", "I", false)
  | 4 => ("HayRemembers$Winter", "firstFall", "I", false)
  | 5 => ("HayRemembers$Winter", "marks", "I", false)
  | 6 => ("HayRemembers$Winter", "law", "LHayRemembers$Law;", true)
  | _ => ("HayRemembers$Winter", "sum", "LHayRemembers$Lean;", true)
def tyX7 : Nat → FieldType := fun k => match k with
  | 0 => .object "HayRemembers$Yard"
  | 1 => .int
  | 2 => .int
  | 3 => .int
  | 4 => .int
  | 5 => .int
  | 6 => .object "HayRemembers$Law"
  | _ => .object "HayRemembers$Lean"
abbrev wsX70 : List Cond := u_ws RX7 TX7 8
theorem nmX7 : ∀ a, a < 8 → ∀ b, b < 8 → a ≠ b → (TX7 a).2.1 ≠ (TX7 b).2.1 := by decide +kernel
theorem tyX7_ok : ∀ k, k < 8 → parseFieldDescriptor (TX7 k).2.2.1 = some (tyX7 k) := by decide +kernel
def RX8 : String := "HayRemembers$Yard"
def TX8 : u_T := fun k => match k with
  | 0 => ("HayRemembers$Yard", "ricks", "I", false)
  | 1 => ("HayRemembers$Yard", "numbers", "[I", true)
  | 2 => ("HayRemembers$Yard", "names", "[I", true)
  | _ => ("HayRemembers$Yard", "heights", "[I", true)
def tyX8 : Nat → FieldType := fun k => match k with
  | 0 => .int
  | 1 => .array .int
  | 2 => .array .int
  | _ => .array .int
abbrev wsX80 : List Cond := u_ws RX8 TX8 4
theorem nmX8 : ∀ a, a < 4 → ∀ b, b < 4 → a ≠ b → (TX8 a).2.1 ≠ (TX8 b).2.1 := by decide +kernel
theorem tyX8_ok : ∀ k, k < 4 → parseFieldDescriptor (TX8 k).2.2.1 = some (tyX8 k) := by decide +kernel
def RX9 : String := "HayRemembers"
def TX9 : u_T := fun k => match k with
  | 0 => ("HayRemembers", "law", "LHayRemembers$Law;", true)
  | 1 => ("HayRemembers", "reader", "LHayRemembers$LawReader;", true)
  | 2 => ("HayRemembers", "now", "LHayRemembers$Yard;", true)
  | 3 => ("HayRemembers", "imaged", "LHayRemembers$Yard;", true)
  | 4 => ("HayRemembers", "sum", "LHayRemembers$Lean;", true)
  | 5 => ("HayRemembers", "thought", "LHayRemembers$Winter;", true)
  | 6 => ("HayRemembers", "search", "LHayRemembers$Search;", true)
  | 7 => ("HayRemembers", "changes", "LHayRemembers$Changes;", true)
  | 8 => ("HayRemembers", "acts", "LHayRemembers$Acts;", true)
  | 9 => ("HayRemembers", "shelves", "[LHayRemembers$Shelf;", true)
  | 10 => ("HayRemembers", "deeds", "[I", true)
  | 11 => ("HayRemembers", "imagedDeeds", "[I", true)
  | 12 => ("HayRemembers", "hasImage", "Z", false)
  | 13 => ("HayRemembers", "today", "I", false)
  | 14 => ("HayRemembers", "imagedDay", "I", false)
  | _ => ("HayRemembers", "layersEver", "I", false)
def tyX9 : Nat → FieldType := fun k => match k with
  | 0 => .object "HayRemembers$Law"
  | 1 => .object "HayRemembers$LawReader"
  | 2 => .object "HayRemembers$Yard"
  | 3 => .object "HayRemembers$Yard"
  | 4 => .object "HayRemembers$Lean"
  | 5 => .object "HayRemembers$Winter"
  | 6 => .object "HayRemembers$Search"
  | 7 => .object "HayRemembers$Changes"
  | 8 => .object "HayRemembers$Acts"
  | 9 => .array (.object "HayRemembers$Shelf")
  | 10 => .array .int
  | 11 => .array .int
  | 12 => .boolean
  | 13 => .int
  | 14 => .int
  | _ => .int
abbrev wsX90 : List Cond := u_ws RX9 TX9 16
theorem nmX9 : ∀ a, a < 16 → ∀ b, b < 16 → a ≠ b → (TX9 a).2.1 ≠ (TX9 b).2.1 := by decide +kernel
theorem tyX9_ok : ∀ k, k < 16 → parseFieldDescriptor (TX9 k).2.2.1 = some (tyX9 k) := by decide +kernel
def RX10 : String := "HayRemembersLaw$Rick"
def TX10 : u_T := fun k => match k with
  | _ => ("", "", "", false)
def tyX10 : Nat → FieldType := fun k => match k with
  | _ => .int
abbrev wsX100 : List Cond := u_ws RX10 TX10 0
theorem nmX10 : ∀ a, a < 0 → ∀ b, b < 0 → a ≠ b → (TX10 a).2.1 ≠ (TX10 b).2.1 := by decide +kernel
theorem tyX10_ok : ∀ k, k < 0 → parseFieldDescriptor (TX10 k).2.2.1 = some (tyX10 k) := by decide +kernel
def RJ0 : String := "java/lang/String"
def RJ1 : String := "java/lang/StringLatin1"
def RJ6 : String := "java/lang/Integer"
def RJ7 : String := "java/util/Arrays"
def nmC : Nat → String := fun k => ([RX0, RX1, RX2, RX3, RX4, RX5, RX6, RX7, RX8, RX9, RX10, RJ0, RJ1, RJ6, RJ7] : List String).getD k ""
abbrev vwCl : List vw_C := [(RX0, TX0, 6), (RX1, TX1, 3), (RX2, TX2, 7), (RX3, TX3, 6), (RX4, TX4, 2), (RX5, TX5, 15), (RX6, TX6, 5), (RX7, TX7, 8), (RX8, TX8, 4), (RX9, TX9, 16)]
abbrev Ent : Type := Nat × Nat × Instr × Nat × Nat
abbrev cX0_bodies : ByteArray := prog_2_method_3_code
def yX0_bodies : MethodName := ⟨RX0, "bodies", "()I"⟩
def cdX0_bodies : List Ent := [(0, 0, .aload_n 0, 1, 0), (1, 0, .getfield 18, 3, 1), (4, 0, .ireturn, 1, 0)]
abbrev cX0_ran : ByteArray := prog_2_method_4_code
def yX0_ran : MethodName := ⟨RX0, "ran", "()I"⟩
def cdX0_ran : List Ent := [(0, 0, .aload_n 0, 1, 0), (1, 0, .getfield 22, 3, 3), (4, 0, .ireturn, 1, 0)]
abbrev cX1_done : ByteArray := prog_3_method_2_code
def yX1_done : MethodName := ⟨RX1, "done", "()I"⟩
def cdX1_done : List Ent := [(0, 0, .aload_n 0, 1, 0), (1, 0, .getfield 13, 3, 101), (4, 0, .ireturn, 1, 0)]
abbrev cX1_add : ByteArray := prog_3_method_5_code
def yX1_add : MethodName := ⟨RX1, "add", "(IIII)V"⟩
def cdX1_add : List Ent := [(0, 0, .aload_n 0, 1, 0), (1, 0, .getfield 13, 3, 101), (4, 0, .bipush 40, 2, 0), (6, 0, .if_icmp .lt 7, 3, 13), (9, 0, .aload_n 0, 1, 0), (10, 0, .invokevirtual 20, 3, 4), (13, 0, .aload_n 0, 1, 0), (14, 0, .getfield 9, 3, 100), (17, 0, .aload_n 0, 1, 0), (18, 0, .getfield 13, 3, 101), (21, 0, .iconst 4, 1, 0), (22, 0, .imul, 1, 0), (23, 0, .iconst 0, 1, 0), (24, 0, .iadd, 1, 0), (25, 0, .iload_n 1, 1, 0), (26, 0, .iastore, 1, 0), (27, 0, .aload_n 0, 1, 0), (28, 0, .getfield 9, 3, 100), (31, 0, .aload_n 0, 1, 0), (32, 0, .getfield 13, 3, 101), (35, 0, .iconst 4, 1, 0), (36, 0, .imul, 1, 0), (37, 0, .iconst 1, 1, 0), (38, 0, .iadd, 1, 0), (39, 0, .iload_n 2, 1, 0), (40, 0, .iastore, 1, 0), (41, 0, .aload_n 0, 1, 0), (42, 0, .getfield 9, 3, 100), (45, 0, .aload_n 0, 1, 0), (46, 0, .getfield 13, 3, 101), (49, 0, .iconst 4, 1, 0), (50, 0, .imul, 1, 0), (51, 0, .iconst 2, 1, 0), (52, 0, .iadd, 1, 0), (53, 0, .iload_n 3, 1, 0), (54, 0, .iastore, 1, 0), (55, 0, .aload_n 0, 1, 0), (56, 0, .getfield 9, 3, 100), (59, 0, .aload_n 0, 1, 0), (60, 0, .getfield 13, 3, 101), (63, 0, .iconst 4, 1, 0), (64, 0, .imul, 1, 0), (65, 0, .iconst 3, 1, 0), (66, 0, .iadd, 1, 0), (67, 0, .iload 4, 2, 0), (69, 0, .iastore, 1, 0), (70, 0, .aload_n 0, 1, 0), (71, 0, .dup, 1, 0), (72, 0, .getfield 13, 3, 101), (75, 0, .iconst 1, 1, 0), (76, 0, .iadd, 1, 0), (77, 0, .putfield 13, 3, 101), (80, 0, .aload_n 0, 1, 0), (81, 0, .aload_n 0, 1, 0), (82, 0, .getfield 13, 3, 101), (85, 0, .putfield 17, 3, 102), (88, 0, .return_, 1, 0)]
abbrev cX1_forgetFirst : ByteArray := prog_3_method_6_code
def yX1_forgetFirst : MethodName := ⟨RX1, "forgetFirst", "()V"⟩
def cdX1_forgetFirst : List Ent := [(0, 0, .iconst 0, 1, 0), (1, 0, .istore_n 1, 1, 0), (2, 1, .iload_n 1, 1, 0), (3, 0, .iconst 4, 1, 0), (4, 0, .iadd, 1, 0), (5, 0, .aload_n 0, 1, 0), (6, 0, .getfield 9, 3, 100), (9, 0, .arraylength, 1, 0), (10, 0, .if_icmp .ge 23, 3, 33), (13, 0, .aload_n 0, 1, 0), (14, 0, .getfield 9, 3, 100), (17, 0, .iload_n 1, 1, 0), (18, 0, .aload_n 0, 1, 0), (19, 0, .getfield 9, 3, 100), (22, 0, .iload_n 1, 1, 0), (23, 0, .iconst 4, 1, 0), (24, 0, .iadd, 1, 0), (25, 0, .iaload, 1, 0), (26, 0, .iastore, 1, 0), (27, 0, .iinc 1 1, 3, 0), (30, 0, .goto (-28), 3, 2), (33, 0, .aload_n 0, 1, 0), (34, 0, .bipush 39, 2, 0), (36, 0, .putfield 13, 3, 101), (39, 0, .return_, 1, 0)]
abbrev cX2_door : ByteArray := prog_4_method_2_code
def yX2_door : MethodName := ⟨RX2, "door", "(I)I"⟩
def cdX2_door : List Ent := [(0, 0, .iload_n 1, 1, 0), (1, 0, .ifCond .lt 21, 3, 22), (4, 0, .iload_n 1, 1, 0), (5, 0, .aload_n 0, 1, 0), (6, 0, .getfield 13, 3, 202), (9, 0, .arraylength, 1, 0), (10, 0, .if_icmp .ge 12, 3, 22), (13, 0, .aload_n 0, 1, 0), (14, 0, .getfield 13, 3, 202), (17, 0, .iload_n 1, 1, 0), (18, 0, .iaload, 1, 0), (19, 0, .goto 4, 3, 23), (22, 0, .iconst 0, 1, 0), (23, 0, .ireturn, 1, 0)]
abbrev cX2_setDoor : ByteArray := prog_4_method_3_code
def yX2_setDoor : MethodName := ⟨RX2, "setDoor", "(II)V"⟩
def cdX2_setDoor : List Ent := [(0, 0, .iload_n 1, 1, 0), (1, 0, .ifCond .lt 19, 3, 20), (4, 0, .iload_n 1, 1, 0), (5, 0, .aload_n 0, 1, 0), (6, 0, .getfield 13, 3, 202), (9, 0, .arraylength, 1, 0), (10, 0, .if_icmp .ge 10, 3, 20), (13, 0, .aload_n 0, 1, 0), (14, 0, .getfield 13, 3, 202), (17, 0, .iload_n 1, 1, 0), (18, 0, .iload_n 2, 1, 0), (19, 0, .iastore, 1, 0), (20, 0, .return_, 1, 0)]
abbrev cX2_holds : ByteArray := prog_4_method_4_code
def yX2_holds : MethodName := ⟨RX2, "holds", "(LHayRemembers$Lean;)Z"⟩
def cdX2_holds : List Ent := [(0, 0, .aload_n 1, 1, 0), (1, 0, .invokevirtual 28, 3, 34), (4, 0, .aload_n 0, 1, 0), (5, 0, .getfield 7, 3, 201), (8, 0, .if_icmp .gt 7, 3, 15), (11, 0, .iconst 1, 1, 0), (12, 0, .goto 4, 3, 16), (15, 0, .iconst 0, 1, 0), (16, 0, .ireturn, 1, 0)]
abbrev cX2_become : ByteArray := prog_4_method_5_code
def yX2_become : MethodName := ⟨RX2, "become", "(LHayRemembers$LawReader;)V"⟩
def cdX2_become : List Ent := [(0, 0, .aload_n 0, 1, 0), (1, 0, .aload_n 1, 1, 0), (2, 0, .invokevirtual 34, 3, 17), (5, 0, .aload_n 0, 1, 0), (6, 0, .getfield 19, 3, 203), (9, 0, .arraylength, 1, 0), (10, 0, .invokestatic 37, 3, 1002), (13, 0, .putfield 43, 3, 204), (16, 0, .iconst 0, 1, 0), (17, 0, .istore_n 2, 1, 0), (18, 1, .iload_n 2, 1, 0), (19, 0, .aload_n 0, 1, 0), (20, 0, .getfield 43, 3, 204), (23, 0, .if_icmp .ge 20, 3, 43), (26, 0, .aload_n 0, 1, 0), (27, 0, .getfield 19, 3, 203), (30, 0, .iload_n 2, 1, 0), (31, 0, .aload_n 1, 1, 0), (32, 0, .iload_n 2, 1, 0), (33, 0, .invokevirtual 45, 3, 18), (36, 0, .iastore, 1, 0), (37, 0, .iinc 2 1, 3, 0), (40, 0, .goto (-22), 3, 18), (43, 0, .return_, 1, 0)]
abbrev cX2_amount : ByteArray := prog_4_method_6_code
def yX2_amount : MethodName := ⟨RX2, "amount", "(IIIII)I"⟩
def cdX2_amount : List Ent := [(0, 0, .aload_n 0, 1, 0), (1, 0, .getfield 43, 3, 204), (4, 0, .ifCond .ne 13, 3, 17), (7, 0, .iload_n 1, 1, 0), (8, 0, .iload_n 2, 1, 0), (9, 0, .bipush 10, 2, 0), (11, 0, .idiv, 1, 0), (12, 0, .isub, 1, 0), (13, 0, .invokestatic 49, 3, 10), (16, 0, .ireturn, 1, 0), (17, 0, .aload_n 0, 1, 0), (18, 0, .getfield 25, 3, 206), (21, 0, .iconst 0, 1, 0), (22, 0, .iload_n 1, 1, 0), (23, 0, .iastore, 1, 0), (24, 0, .aload_n 0, 1, 0), (25, 0, .getfield 25, 3, 206), (28, 0, .iconst 1, 1, 0), (29, 0, .iload_n 2, 1, 0), (30, 0, .iastore, 1, 0), (31, 0, .aload_n 0, 1, 0), (32, 0, .getfield 25, 3, 206), (35, 0, .iconst 2, 1, 0), (36, 0, .iload 5, 2, 0), (38, 0, .iastore, 1, 0), (39, 0, .aload_n 0, 1, 0), (40, 0, .getfield 25, 3, 206), (43, 0, .iconst 3, 1, 0), (44, 0, .iload_n 3, 1, 0), (45, 0, .iastore, 1, 0), (46, 0, .aload_n 0, 1, 0), (47, 0, .getfield 25, 3, 206), (50, 0, .iconst 4, 1, 0), (51, 0, .aload_n 0, 1, 0), (52, 0, .getfield 52, 3, 200), (55, 0, .iastore, 1, 0), (56, 0, .aload_n 0, 1, 0), (57, 0, .getfield 25, 3, 206), (60, 0, .iconst 5, 1, 0), (61, 0, .iload 4, 2, 0), (63, 0, .iastore, 1, 0), (64, 0, .aload_n 0, 1, 0), (65, 0, .invokevirtual 55, 3, 11), (68, 0, .invokestatic 49, 3, 10), (71, 0, .ireturn, 1, 0)]
abbrev cX2_held : ByteArray := prog_4_method_7_code
def yX2_held : MethodName := ⟨RX2, "held", "(I)I"⟩
def cdX2_held : List Ent := [(0, 0, .iconst 0, 1, 0), (1, 0, .bipush 9, 2, 0), (3, 0, .iload_n 0, 1, 0), (4, 0, .invokestatic 37, 3, 1002), (7, 0, .invokestatic 58, 3, 1001), (10, 0, .ireturn, 1, 0)]
abbrev cX2_worked : ByteArray := prog_4_method_8_code
def yX2_worked : MethodName := ⟨RX2, "worked", "()I"⟩
def cdX2_worked : List Ent := [(0, 0, .iconst 0, 1, 0), (1, 0, .istore_n 1, 1, 0), (2, 0, .iconst 0, 1, 0), (3, 0, .istore_n 2, 1, 0), (4, 0, .iconst 0, 1, 0), (5, 0, .istore_n 3, 1, 0), (6, 1, .iload_n 3, 1, 0), (7, 0, .aload_n 0, 1, 0), (8, 0, .getfield 43, 3, 204), (11, 0, .if_icmp .ge 210, 3, 221), (14, 0, .aload_n 0, 1, 0), (15, 0, .getfield 19, 3, 203), (18, 0, .iload_n 3, 1, 0), (19, 0, .iaload, 1, 0), (20, 0, .istore 4, 2, 0), (22, 0, .iload_n 2, 1, 0), (23, 0, .ifCond .eq 20, 3, 43), (26, 0, .iload 4, 2, 0), (28, 0, .sipush 10069, 3, 0), (31, 0, .if_icmp .eq 7, 3, 38), (34, 0, .iconst 1, 1, 0), (35, 0, .goto 4, 3, 39), (38, 0, .iconst 0, 1, 0), (39, 0, .istore_n 2, 1, 0), (40, 0, .goto 175, 3, 215), (43, 0, .iload 4, 2, 0), (45, 0, .sipush 10010, 3, 0), (48, 0, .if_icmp .ge 35, 3, 83), (51, 0, .aload_n 0, 1, 0), (52, 0, .iload_n 1, 1, 0), (53, 0, .iload 4, 2, 0), (55, 0, .sipush 10000, 3, 0), (58, 0, .if_icmp .ge 8, 3, 66), (61, 0, .iload 4, 2, 0), (63, 0, .goto 13, 3, 76), (66, 0, .aload_n 0, 1, 0), (67, 0, .iload 4, 2, 0), (69, 0, .sipush 10000, 3, 0), (72, 0, .isub, 1, 0), (73, 0, .invokevirtual 61, 3, 12), (76, 0, .invokevirtual 63, 3, 13), (79, 0, .istore_n 1, 1, 0), (80, 0, .goto 135, 3, 215), (83, 0, .iload 4, 2, 0), (85, 0, .sipush 10069, 3, 0), (88, 0, .if_icmp .ne 10, 3, 98), (91, 0, .aload_n 0, 1, 0), (92, 0, .iload_n 1, 1, 0), (93, 0, .iconst 1, 1, 0), (94, 0, .invokevirtual 66, 3, 14), (97, 0, .ireturn, 1, 0), (98, 0, .iload 4, 2, 0), (100, 0, .sipush 10073, 3, 0), (103, 0, .if_icmp .ne 24, 3, 127), (106, 0, .aload_n 0, 1, 0), (107, 0, .iload_n 1, 1, 0), (108, 0, .iconst 1, 1, 0), (109, 0, .invokevirtual 66, 3, 14), (112, 0, .ifCond .ne 7, 3, 119), (115, 0, .iconst 1, 1, 0), (116, 0, .goto 4, 3, 120), (119, 0, .iconst 0, 1, 0), (120, 0, .istore_n 2, 1, 0), (121, 0, .iinc 1 (-1), 3, 0), (124, 0, .goto 91, 3, 215), (127, 0, .iload 4, 2, 0), (129, 0, .sipush 10136, 3, 0), (132, 0, .if_icmp .ne 21, 3, 153), (135, 0, .aload_n 0, 1, 0), (136, 0, .iload_n 1, 1, 0), (137, 0, .iconst 1, 1, 0), (138, 0, .isub, 1, 0), (139, 0, .aload_n 0, 1, 0), (140, 0, .iload_n 1, 1, 0), (141, 0, .iconst 1, 1, 0), (142, 0, .invokevirtual 66, 3, 14), (145, 0, .ineg, 1, 0), (146, 0, .invokevirtual 63, 3, 13), (149, 0, .istore_n 1, 1, 0), (150, 0, .goto 65, 3, 215), (153, 0, .iload 4, 2, 0), (155, 0, .sipush 10043, 3, 0), (158, 0, .if_icmp .ne 28, 3, 186), (161, 0, .aload_n 0, 1, 0), (162, 0, .iload_n 1, 1, 0), (163, 0, .iconst 1, 1, 0), (164, 0, .isub, 1, 0), (165, 0, .aload_n 0, 1, 0), (166, 0, .iload_n 1, 1, 0), (167, 0, .iconst 1, 1, 0), (168, 0, .invokevirtual 66, 3, 14), (171, 0, .ifCond .ne 7, 3, 178), (174, 0, .iconst 1, 1, 0), (175, 0, .goto 4, 3, 179), (178, 0, .iconst 0, 1, 0), (179, 0, .invokevirtual 63, 3, 13), (182, 0, .istore_n 1, 1, 0), (183, 0, .goto 32, 3, 215), (186, 0, .aload_n 0, 1, 0), (187, 0, .iload_n 1, 1, 0), (188, 0, .iconst 2, 1, 0), (189, 0, .isub, 1, 0), (190, 0, .iload 4, 2, 0), (192, 0, .sipush 10010, 3, 0), (195, 0, .isub, 1, 0), (196, 0, .aload_n 0, 1, 0), (197, 0, .iload_n 1, 1, 0), (198, 0, .iconst 2, 1, 0), (199, 0, .invokevirtual 66, 3, 14), (202, 0, .aload_n 0, 1, 0), (203, 0, .iload_n 1, 1, 0), (204, 0, .iconst 1, 1, 0), (205, 0, .invokevirtual 66, 3, 14), (208, 0, .invokestatic 69, 3, 15), (211, 0, .invokevirtual 63, 3, 13), (214, 0, .istore_n 1, 1, 0), (215, 0, .iinc 3 1, 3, 0), (218, 0, .goto (-212), 3, 6), (221, 0, .iconst 0, 1, 0), (222, 0, .ireturn, 1, 0)]
abbrev cX2_named : ByteArray := prog_4_method_9_code
def yX2_named : MethodName := ⟨RX2, "named", "(I)I"⟩
def cdX2_named : List Ent := [(0, 0, .iload_n 1, 1, 0), (1, 0, .ifCond .lt 21, 3, 22), (4, 0, .iload_n 1, 1, 0), (5, 0, .aload_n 0, 1, 0), (6, 0, .getfield 25, 3, 206), (9, 0, .arraylength, 1, 0), (10, 0, .if_icmp .ge 12, 3, 22), (13, 0, .aload_n 0, 1, 0), (14, 0, .getfield 25, 3, 206), (17, 0, .iload_n 1, 1, 0), (18, 0, .iaload, 1, 0), (19, 0, .goto 4, 3, 23), (22, 0, .iconst 0, 1, 0), (23, 0, .ireturn, 1, 0)]
abbrev cX2_push : ByteArray := prog_4_method_10_code
def yX2_push : MethodName := ⟨RX2, "push", "(II)I"⟩
def cdX2_push : List Ent := [(0, 0, .iload_n 1, 1, 0), (1, 0, .ifCond .lt 19, 3, 20), (4, 0, .iload_n 1, 1, 0), (5, 0, .aload_n 0, 1, 0), (6, 0, .getfield 22, 3, 205), (9, 0, .arraylength, 1, 0), (10, 0, .if_icmp .ge 10, 3, 20), (13, 0, .aload_n 0, 1, 0), (14, 0, .getfield 22, 3, 205), (17, 0, .iload_n 1, 1, 0), (18, 0, .iload_n 2, 1, 0), (19, 0, .iastore, 1, 0), (20, 0, .iload_n 1, 1, 0), (21, 0, .iconst 1, 1, 0), (22, 0, .iadd, 1, 0), (23, 0, .ireturn, 1, 0)]
abbrev cX2_under : ByteArray := prog_4_method_11_code
def yX2_under : MethodName := ⟨RX2, "under", "(II)I"⟩
def cdX2_under : List Ent := [(0, 0, .iload_n 1, 1, 0), (1, 0, .iload_n 2, 1, 0), (2, 0, .isub, 1, 0), (3, 0, .istore_n 3, 1, 0), (4, 0, .iload_n 3, 1, 0), (5, 0, .ifCond .lt 21, 3, 26), (8, 0, .iload_n 3, 1, 0), (9, 0, .aload_n 0, 1, 0), (10, 0, .getfield 22, 3, 205), (13, 0, .arraylength, 1, 0), (14, 0, .if_icmp .ge 12, 3, 26), (17, 0, .aload_n 0, 1, 0), (18, 0, .getfield 22, 3, 205), (21, 0, .iload_n 3, 1, 0), (22, 0, .iaload, 1, 0), (23, 0, .goto 4, 3, 27), (26, 0, .iconst 0, 1, 0), (27, 0, .ireturn, 1, 0)]
abbrev cX2_joined : ByteArray := prog_4_method_12_code
def yX2_joined : MethodName := ⟨RX2, "joined", "(III)I"⟩
def cdX2_joined : List Ent := [(0, 0, .iload_n 0, 1, 0), (1, 0, .tableswitch 202 37 62 #[143, 188, 202, 202, 202, 127, 119, 202, 123, 202, 131, 202, 202, 202, 202, 202, 202, 202, 202, 202, 202, 202, 202, 155, 166, 177], 119, 0), (120, 0, .iload_n 1, 1, 0), (121, 0, .iload_n 2, 1, 0), (122, 0, .iadd, 1, 0), (123, 0, .ireturn, 1, 0), (124, 0, .iload_n 1, 1, 0), (125, 0, .iload_n 2, 1, 0), (126, 0, .isub, 1, 0), (127, 0, .ireturn, 1, 0), (128, 0, .iload_n 1, 1, 0), (129, 0, .iload_n 2, 1, 0), (130, 0, .imul, 1, 0), (131, 0, .ireturn, 1, 0), (132, 0, .iload_n 2, 1, 0), (133, 0, .ifCond .ne 7, 3, 140), (136, 0, .iconst 0, 1, 0), (137, 0, .goto 6, 3, 143), (140, 0, .iload_n 1, 1, 0), (141, 0, .iload_n 2, 1, 0), (142, 0, .idiv, 1, 0), (143, 0, .ireturn, 1, 0), (144, 0, .iload_n 2, 1, 0), (145, 0, .ifCond .ne 7, 3, 152), (148, 0, .iconst 0, 1, 0), (149, 0, .goto 6, 3, 155), (152, 0, .iload_n 1, 1, 0), (153, 0, .iload_n 2, 1, 0), (154, 0, .irem, 1, 0), (155, 0, .ireturn, 1, 0), (156, 0, .iload_n 1, 1, 0), (157, 0, .iload_n 2, 1, 0), (158, 0, .if_icmp .ge 7, 3, 165), (161, 0, .iconst 1, 1, 0), (162, 0, .goto 4, 3, 166), (165, 0, .iconst 0, 1, 0), (166, 0, .ireturn, 1, 0), (167, 0, .iload_n 1, 1, 0), (168, 0, .iload_n 2, 1, 0), (169, 0, .if_icmp .ne 7, 3, 176), (172, 0, .iconst 1, 1, 0), (173, 0, .goto 4, 3, 177), (176, 0, .iconst 0, 1, 0), (177, 0, .ireturn, 1, 0), (178, 0, .iload_n 1, 1, 0), (179, 0, .iload_n 2, 1, 0), (180, 0, .if_icmp .le 7, 3, 187), (183, 0, .iconst 1, 1, 0), (184, 0, .goto 4, 3, 188), (187, 0, .iconst 0, 1, 0), (188, 0, .ireturn, 1, 0), (189, 0, .iload_n 1, 1, 0), (190, 0, .ifCond .eq 11, 3, 201), (193, 0, .iload_n 2, 1, 0), (194, 0, .ifCond .eq 7, 3, 201), (197, 0, .iconst 1, 1, 0), (198, 0, .goto 4, 3, 202), (201, 0, .iconst 0, 1, 0), (202, 0, .ireturn, 1, 0), (203, 0, .iload_n 1, 1, 0), (204, 0, .ifCond .ne 7, 3, 211), (207, 0, .iload_n 2, 1, 0), (208, 0, .ifCond .eq 7, 3, 215), (211, 0, .iconst 1, 1, 0), (212, 0, .goto 4, 3, 216), (215, 0, .iconst 0, 1, 0), (216, 0, .ireturn, 1, 0)]
abbrev cX3_length : ByteArray := prog_5_method_2_code
def yX3_length : MethodName := ⟨RX3, "length", "()I"⟩
def cdX3_length : List Ent := [(0, 0, .aload_n 0, 1, 0), (1, 0, .getfield 16, 3, 301), (4, 0, .ireturn, 1, 0)]
abbrev cX3_size : ByteArray := prog_5_method_3_code
def yX3_size : MethodName := ⟨RX3, "size", "()I"⟩
def cdX3_size : List Ent := [(0, 0, .aload_n 0, 1, 0), (1, 0, .getfield 20, 3, 303), (4, 0, .ireturn, 1, 0)]
abbrev cX3_codeAt : ByteArray := prog_5_method_4_code
def yX3_codeAt : MethodName := ⟨RX3, "codeAt", "(I)I"⟩
def cdX3_codeAt : List Ent := [(0, 0, .iload_n 1, 1, 0), (1, 0, .ifCond .lt 29, 3, 30), (4, 0, .iload_n 1, 1, 0), (5, 0, .aload_n 0, 1, 0), (6, 0, .getfield 20, 3, 303), (9, 0, .if_icmp .ge 21, 3, 30), (12, 0, .iload_n 1, 1, 0), (13, 0, .aload_n 0, 1, 0), (14, 0, .getfield 13, 3, 302), (17, 0, .arraylength, 1, 0), (18, 0, .if_icmp .ge 12, 3, 30), (21, 0, .aload_n 0, 1, 0), (22, 0, .getfield 13, 3, 302), (25, 0, .iload_n 1, 1, 0), (26, 0, .iaload, 1, 0), (27, 0, .goto 6, 3, 33), (30, 0, .sipush 10069, 3, 0), (33, 0, .ireturn, 1, 0)]
abbrev cX3_take : ByteArray := prog_5_method_5_code
def yX3_take : MethodName := ⟨RX3, "take", "(I)Z"⟩
def cdX3_take : List Ent := [(0, 0, .aload_n 0, 1, 0), (1, 0, .getfield 16, 3, 301), (4, 0, .bipush 120, 2, 0), (6, 0, .if_icmp .lt 5, 3, 11), (9, 0, .iconst 0, 1, 0), (10, 0, .ireturn, 1, 0), (11, 0, .aload_n 0, 1, 0), (12, 0, .getfield 9, 3, 300), (15, 0, .aload_n 0, 1, 0), (16, 0, .getfield 16, 3, 301), (19, 0, .iload_n 1, 1, 0), (20, 0, .iastore, 1, 0), (21, 0, .aload_n 0, 1, 0), (22, 0, .dup, 1, 0), (23, 0, .getfield 16, 3, 301), (26, 0, .iconst 1, 1, 0), (27, 0, .iadd, 1, 0), (28, 0, .putfield 16, 3, 301), (31, 0, .iconst 1, 1, 0), (32, 0, .ireturn, 1, 0)]
abbrev cX3_empty : ByteArray := prog_5_method_6_code
def yX3_empty : MethodName := ⟨RX3, "empty", "()V"⟩
def cdX3_empty : List Ent := [(0, 0, .aload_n 0, 1, 0), (1, 0, .iconst 0, 1, 0), (2, 0, .putfield 16, 3, 301), (5, 0, .return_, 1, 0)]
abbrev cX3_read : ByteArray := prog_5_method_7_code
def yX3_read : MethodName := ⟨RX3, "read", "()I"⟩
def cdX3_read : List Ent := [(0, 0, .aload_n 0, 1, 0), (1, 0, .iconst 0, 1, 0), (2, 0, .putfield 23, 3, 304), (5, 0, .aload_n 0, 1, 0), (6, 0, .iconst 0, 1, 0), (7, 0, .putfield 20, 3, 303), (10, 0, .aload_n 0, 1, 0), (11, 0, .iconst (-1), 1, 0), (12, 0, .putfield 26, 3, 305), (15, 0, .iconst 0, 1, 0), (16, 0, .istore_n 1, 1, 0), (17, 1, .iload_n 1, 1, 0), (18, 0, .bipush 120, 2, 0), (20, 0, .if_icmp .gt 70, 3, 90), (23, 0, .aload_n 0, 1, 0), (24, 0, .getfield 26, 3, 305), (27, 0, .ifCond .ge 63, 3, 90), (30, 0, .aload_n 0, 1, 0), (31, 0, .invokevirtual 29, 3, 22), (34, 0, .aload_n 0, 1, 0), (35, 0, .getfield 26, 3, 305), (38, 0, .ifCond .ge 14, 3, 52), (41, 0, .aload_n 0, 1, 0), (42, 0, .getfield 23, 3, 304), (45, 0, .aload_n 0, 1, 0), (46, 0, .getfield 16, 3, 301), (49, 0, .if_icmp .ne 8, 3, 57), (52, 0, .aload_n 0, 1, 0), (53, 0, .getfield 26, 3, 305), (56, 0, .ireturn, 1, 0), (57, 0, .aload_n 0, 1, 0), (58, 0, .invokevirtual 32, 3, 27), (61, 0, .bipush 59, 2, 0), (63, 0, .if_icmp .eq 11, 3, 74), (66, 0, .aload_n 0, 1, 0), (67, 0, .aload_n 0, 1, 0), (68, 0, .getfield 23, 3, 304), (71, 0, .putfield 26, 3, 305), (74, 0, .aload_n 0, 1, 0), (75, 0, .dup, 1, 0), (76, 0, .getfield 23, 3, 304), (79, 0, .iconst 1, 1, 0), (80, 0, .iadd, 1, 0), (81, 0, .putfield 23, 3, 304), (84, 0, .iinc 1 1, 3, 0), (87, 0, .goto (-70), 3, 17), (90, 0, .aload_n 0, 1, 0), (91, 0, .getfield 26, 3, 305), (94, 0, .ireturn, 1, 0)]
abbrev cX3_readLine : ByteArray := prog_5_method_8_code
def yX3_readLine : MethodName := ⟨RX3, "readLine", "()V"⟩
def cdX3_readLine : List Ent := [(0, 0, .aload_n 0, 1, 0), (1, 0, .iconst 0, 1, 0), (2, 0, .iconst 0, 1, 0), (3, 0, .invokevirtual 36, 3, 23), (6, 0, .aload_n 0, 1, 0), (7, 0, .getfield 26, 3, 305), (10, 0, .ifCond .ge 35, 3, 45), (13, 0, .aload_n 0, 1, 0), (14, 0, .invokevirtual 32, 3, 27), (17, 0, .bipush 63, 2, 0), (19, 0, .if_icmp .ne 26, 3, 45), (22, 0, .aload_n 0, 1, 0), (23, 0, .dup, 1, 0), (24, 0, .getfield 23, 3, 304), (27, 0, .iconst 1, 1, 0), (28, 0, .iadd, 1, 0), (29, 0, .putfield 23, 3, 304), (32, 0, .aload_n 0, 1, 0), (33, 0, .sipush 10073, 3, 0), (36, 0, .invokevirtual 40, 3, 28), (39, 0, .aload_n 0, 1, 0), (40, 0, .iconst 0, 1, 0), (41, 0, .iconst 0, 1, 0), (42, 0, .invokevirtual 36, 3, 23), (45, 0, .aload_n 0, 1, 0), (46, 0, .sipush 10069, 3, 0), (49, 0, .invokevirtual 40, 3, 28), (52, 0, .return_, 1, 0)]
abbrev cX3_readLevel : ByteArray := prog_5_method_9_code
def yX3_readLevel : MethodName := ⟨RX3, "readLevel", "(II)V"⟩
def cdX3_readLevel : List Ent := [(0, 0, .iload_n 1, 1, 0), (1, 0, .iconst 5, 1, 0), (2, 0, .if_icmp .lt 9, 3, 11), (5, 0, .aload_n 0, 1, 0), (6, 0, .iload_n 2, 1, 0), (7, 0, .invokevirtual 44, 3, 24), (10, 0, .return_, 1, 0), (11, 0, .aload_n 0, 1, 0), (12, 0, .iload_n 1, 1, 0), (13, 0, .iconst 1, 1, 0), (14, 0, .iadd, 1, 0), (15, 0, .iload_n 2, 1, 0), (16, 0, .invokevirtual 36, 3, 23), (19, 0, .iload_n 1, 1, 0), (20, 0, .iconst 2, 1, 0), (21, 0, .if_icmp .ne 7, 3, 28), (24, 0, .iconst 1, 1, 0), (25, 0, .goto 5, 3, 30), (28, 0, .bipush 120, 2, 0), (30, 0, .istore_n 3, 1, 0), (31, 0, .iconst 0, 1, 0), (32, 0, .istore 4, 2, 0), (34, 1, .iload 4, 2, 0), (36, 0, .iload_n 3, 1, 0), (37, 0, .if_icmp .ge 61, 3, 98), (40, 0, .aload_n 0, 1, 0), (41, 0, .getfield 26, 3, 305), (44, 0, .ifCond .ge 54, 3, 98), (47, 0, .aload_n 0, 1, 0), (48, 0, .invokevirtual 32, 3, 27), (51, 0, .invokestatic 47, 3, 29), (54, 0, .iload_n 1, 1, 0), (55, 0, .if_icmp .ne 43, 3, 98), (58, 0, .aload_n 0, 1, 0), (59, 0, .invokevirtual 32, 3, 27), (62, 0, .istore 5, 2, 0), (64, 0, .aload_n 0, 1, 0), (65, 0, .dup, 1, 0), (66, 0, .getfield 23, 3, 304), (69, 0, .iconst 1, 1, 0), (70, 0, .iadd, 1, 0), (71, 0, .putfield 23, 3, 304), (74, 0, .aload_n 0, 1, 0), (75, 0, .iload_n 1, 1, 0), (76, 0, .iconst 1, 1, 0), (77, 0, .iadd, 1, 0), (78, 0, .iload_n 2, 1, 0), (79, 0, .invokevirtual 36, 3, 23), (82, 0, .aload_n 0, 1, 0), (83, 0, .sipush 10010, 3, 0), (86, 0, .iload 5, 2, 0), (88, 0, .iadd, 1, 0), (89, 0, .invokevirtual 40, 3, 28), (92, 0, .iinc 4 1, 3, 0), (95, 0, .goto (-61), 3, 34), (98, 0, .return_, 1, 0)]
abbrev cX3_readOperand : ByteArray := prog_5_method_10_code
def yX3_readOperand : MethodName := ⟨RX3, "readOperand", "(I)V"⟩
def cdX3_readOperand : List Ent := [(0, 0, .aload_n 0, 1, 0), (1, 0, .invokevirtual 32, 3, 27), (4, 0, .istore_n 2, 1, 0), (5, 0, .iload_n 2, 1, 0), (6, 0, .bipush 48, 2, 0), (8, 0, .if_icmp .lt 16, 3, 24), (11, 0, .iload_n 2, 1, 0), (12, 0, .bipush 57, 2, 0), (14, 0, .if_icmp .gt 10, 3, 24), (17, 0, .aload_n 0, 1, 0), (18, 0, .invokevirtual 51, 3, 26), (21, 0, .goto 105, 3, 126), (24, 0, .iload_n 2, 1, 0), (25, 0, .ifCond .le 48, 3, 73), (28, 0, .iload_n 2, 1, 0), (29, 0, .sipush 128, 3, 0), (32, 0, .if_icmp .ge 41, 3, 73), (35, 0, .ldc 54, 2, 2000), (37, 0, .iload_n 2, 1, 0), (38, 0, .i2c, 1, 0), (39, 0, .invokevirtual 56, 3, 114), (42, 0, .ifCond .lt 31, 3, 73), (45, 0, .aload_n 0, 1, 0), (46, 0, .dup, 1, 0), (47, 0, .getfield 23, 3, 304), (50, 0, .iconst 1, 1, 0), (51, 0, .iadd, 1, 0), (52, 0, .putfield 23, 3, 304), (55, 0, .aload_n 0, 1, 0), (56, 0, .sipush 10000, 3, 0), (59, 0, .ldc 54, 2, 2000), (61, 0, .iload_n 2, 1, 0), (62, 0, .i2c, 1, 0), (63, 0, .invokevirtual 56, 3, 114), (66, 0, .iadd, 1, 0), (67, 0, .invokevirtual 40, 3, 28), (70, 0, .goto 56, 3, 126), (73, 0, .iload_n 2, 1, 0), (74, 0, .bipush 40, 2, 0), (76, 0, .if_icmp .eq 15, 3, 91), (79, 0, .iload_n 2, 1, 0), (80, 0, .bipush 33, 2, 0), (82, 0, .if_icmp .eq 9, 3, 91), (85, 0, .iload_n 2, 1, 0), (86, 0, .bipush 45, 2, 0), (88, 0, .if_icmp .ne 30, 3, 118), (91, 0, .iload_n 1, 1, 0), (92, 0, .bipush 6, 2, 0), (94, 0, .if_icmp .ge 24, 3, 118), (97, 0, .aload_n 0, 1, 0), (98, 0, .dup, 1, 0), (99, 0, .getfield 23, 3, 304), (102, 0, .iconst 1, 1, 0), (103, 0, .iadd, 1, 0), (104, 0, .putfield 23, 3, 304), (107, 0, .aload_n 0, 1, 0), (108, 0, .iload_n 2, 1, 0), (109, 0, .iload_n 1, 1, 0), (110, 0, .iconst 1, 1, 0), (111, 0, .iadd, 1, 0), (112, 0, .invokevirtual 61, 3, 25), (115, 0, .goto 11, 3, 126), (118, 0, .aload_n 0, 1, 0), (119, 0, .aload_n 0, 1, 0), (120, 0, .getfield 23, 3, 304), (123, 0, .putfield 26, 3, 305), (126, 0, .return_, 1, 0)]
abbrev cX3_readOpened : ByteArray := prog_5_method_11_code
def yX3_readOpened : MethodName := ⟨RX3, "readOpened", "(II)V"⟩
def cdX3_readOpened : List Ent := [(0, 0, .iload_n 1, 1, 0), (1, 0, .bipush 40, 2, 0), (3, 0, .if_icmp .eq 28, 3, 31), (6, 0, .aload_n 0, 1, 0), (7, 0, .iload_n 2, 1, 0), (8, 0, .invokevirtual 44, 3, 24), (11, 0, .aload_n 0, 1, 0), (12, 0, .iload_n 1, 1, 0), (13, 0, .bipush 33, 2, 0), (15, 0, .if_icmp .ne 9, 3, 24), (18, 0, .sipush 10043, 3, 0), (21, 0, .goto 6, 3, 27), (24, 0, .sipush 10136, 3, 0), (27, 0, .invokevirtual 40, 3, 28), (30, 0, .return_, 1, 0), (31, 0, .aload_n 0, 1, 0), (32, 0, .iconst 0, 1, 0), (33, 0, .iload_n 2, 1, 0), (34, 0, .invokevirtual 36, 3, 23), (37, 0, .aload_n 0, 1, 0), (38, 0, .getfield 26, 3, 305), (41, 0, .ifCond .ge 20, 3, 61), (44, 0, .aload_n 0, 1, 0), (45, 0, .invokevirtual 32, 3, 27), (48, 0, .bipush 41, 2, 0), (50, 0, .if_icmp .eq 11, 3, 61), (53, 0, .aload_n 0, 1, 0), (54, 0, .aload_n 0, 1, 0), (55, 0, .getfield 23, 3, 304), (58, 0, .putfield 26, 3, 305), (61, 0, .aload_n 0, 1, 0), (62, 0, .dup, 1, 0), (63, 0, .getfield 23, 3, 304), (66, 0, .iconst 1, 1, 0), (67, 0, .iadd, 1, 0), (68, 0, .putfield 23, 3, 304), (71, 0, .return_, 1, 0)]
abbrev cX3_readNumber : ByteArray := prog_5_method_12_code
def yX3_readNumber : MethodName := ⟨RX3, "readNumber", "()V"⟩
def cdX3_readNumber : List Ent := [(0, 0, .iconst 0, 1, 0), (1, 0, .istore_n 1, 1, 0), (2, 0, .iconst 0, 1, 0), (3, 0, .istore_n 2, 1, 0), (4, 1, .iload_n 2, 1, 0), (5, 0, .iconst 4, 1, 0), (6, 0, .if_icmp .ge 50, 3, 56), (9, 0, .aload_n 0, 1, 0), (10, 0, .invokevirtual 32, 3, 27), (13, 0, .bipush 48, 2, 0), (15, 0, .if_icmp .lt 41, 3, 56), (18, 0, .aload_n 0, 1, 0), (19, 0, .invokevirtual 32, 3, 27), (22, 0, .bipush 57, 2, 0), (24, 0, .if_icmp .gt 32, 3, 56), (27, 0, .iload_n 1, 1, 0), (28, 0, .bipush 10, 2, 0), (30, 0, .imul, 1, 0), (31, 0, .aload_n 0, 1, 0), (32, 0, .invokevirtual 32, 3, 27), (35, 0, .iadd, 1, 0), (36, 0, .bipush 48, 2, 0), (38, 0, .isub, 1, 0), (39, 0, .istore_n 1, 1, 0), (40, 0, .aload_n 0, 1, 0), (41, 0, .dup, 1, 0), (42, 0, .getfield 23, 3, 304), (45, 0, .iconst 1, 1, 0), (46, 0, .iadd, 1, 0), (47, 0, .putfield 23, 3, 304), (50, 0, .iinc 2 1, 3, 0), (53, 0, .goto (-49), 3, 4), (56, 0, .aload_n 0, 1, 0), (57, 0, .iload_n 1, 1, 0), (58, 0, .invokevirtual 40, 3, 28), (61, 0, .return_, 1, 0)]
abbrev cX3_next : ByteArray := prog_5_method_13_code
def yX3_next : MethodName := ⟨RX3, "next", "()I"⟩
def cdX3_next : List Ent := [(0, 0, .aload_n 0, 1, 0), (1, 0, .getfield 23, 3, 304), (4, 0, .ifCond .lt 38, 3, 42), (7, 0, .aload_n 0, 1, 0), (8, 0, .getfield 23, 3, 304), (11, 0, .aload_n 0, 1, 0), (12, 0, .getfield 16, 3, 301), (15, 0, .if_icmp .ge 27, 3, 42), (18, 0, .aload_n 0, 1, 0), (19, 0, .getfield 23, 3, 304), (22, 0, .aload_n 0, 1, 0), (23, 0, .getfield 9, 3, 300), (26, 0, .arraylength, 1, 0), (27, 0, .if_icmp .ge 15, 3, 42), (30, 0, .aload_n 0, 1, 0), (31, 0, .getfield 9, 3, 300), (34, 0, .aload_n 0, 1, 0), (35, 0, .getfield 23, 3, 304), (38, 0, .iaload, 1, 0), (39, 0, .goto 4, 3, 43), (42, 0, .iconst (-1), 1, 0), (43, 0, .ireturn, 1, 0)]
abbrev cX3_step : ByteArray := prog_5_method_14_code
def yX3_step : MethodName := ⟨RX3, "step", "(I)V"⟩
def cdX3_step : List Ent := [(0, 0, .aload_n 0, 1, 0), (1, 0, .getfield 20, 3, 303), (4, 0, .aload_n 0, 1, 0), (5, 0, .getfield 13, 3, 302), (8, 0, .arraylength, 1, 0), (9, 0, .if_icmp .ge 23, 3, 32), (12, 0, .aload_n 0, 1, 0), (13, 0, .getfield 13, 3, 302), (16, 0, .aload_n 0, 1, 0), (17, 0, .getfield 20, 3, 303), (20, 0, .iload_n 1, 1, 0), (21, 0, .iastore, 1, 0), (22, 0, .aload_n 0, 1, 0), (23, 0, .dup, 1, 0), (24, 0, .getfield 20, 3, 303), (27, 0, .iconst 1, 1, 0), (28, 0, .iadd, 1, 0), (29, 0, .putfield 20, 3, 303), (32, 0, .return_, 1, 0)]
abbrev cX3_levelOf : ByteArray := prog_5_method_15_code
def yX3_levelOf : MethodName := ⟨RX3, "levelOf", "(I)I"⟩
def cdX3_levelOf : List Ent := [(0, 0, .iload_n 0, 1, 0), (1, 0, .lookupswitch 101 #[(37, 99), (38, 93), (42, 99), (43, 97), (45, 97), (47, 99), (60, 95), (61, 95), (62, 95), (124, 91)], 91, 0), (92, 0, .iconst 0, 1, 0), (93, 0, .ireturn, 1, 0), (94, 0, .iconst 1, 1, 0), (95, 0, .ireturn, 1, 0), (96, 0, .iconst 2, 1, 0), (97, 0, .ireturn, 1, 0), (98, 0, .iconst 3, 1, 0), (99, 0, .ireturn, 1, 0), (100, 0, .iconst 4, 1, 0), (101, 0, .ireturn, 1, 0), (102, 0, .iconst (-1), 1, 0), (103, 0, .ireturn, 1, 0)]
abbrev cX4_begin : ByteArray := prog_6_method_2_code
def yX4_begin : MethodName := ⟨RX4, "begin", "(II)V"⟩
def cdX4_begin : List Ent := [(0, 0, .aload_n 0, 1, 0), (1, 0, .iload_n 1, 1, 0), (2, 0, .putfield 7, 3, 400), (5, 0, .aload_n 0, 1, 0), (6, 0, .iload_n 2, 1, 0), (7, 0, .putfield 13, 3, 401), (10, 0, .return_, 1, 0)]
abbrev cX4_add : ByteArray := prog_6_method_3_code
def yX4_add : MethodName := ⟨RX4, "add", "(II)V"⟩
def cdX4_add : List Ent := [(0, 0, .aload_n 0, 1, 0), (1, 0, .dup, 1, 0), (2, 0, .getfield 7, 3, 400), (5, 0, .iload_n 2, 1, 0), (6, 0, .iload_n 1, 1, 0), (7, 0, .invokestatic 16, 3, 32), (10, 0, .imul, 1, 0), (11, 0, .iadd, 1, 0), (12, 0, .putfield 7, 3, 400), (15, 0, .aload_n 0, 1, 0), (16, 0, .dup, 1, 0), (17, 0, .getfield 13, 3, 401), (20, 0, .iload_n 2, 1, 0), (21, 0, .iload_n 1, 1, 0), (22, 0, .invokestatic 20, 3, 33), (25, 0, .imul, 1, 0), (26, 0, .iadd, 1, 0), (27, 0, .putfield 13, 3, 401), (30, 0, .return_, 1, 0)]
abbrev cX4_right : ByteArray := prog_6_method_4_code
def yX4_right : MethodName := ⟨RX4, "right", "(I)I"⟩
def cdX4_right : List Ent := [(0, 0, .iload_n 0, 1, 0), (1, 0, .ifCond .lt 19, 3, 20), (4, 0, .iload_n 0, 1, 0), (5, 0, .getstatic 23, 3, 1), (8, 0, .arraylength, 1, 0), (9, 0, .if_icmp .ge 11, 3, 20), (12, 0, .getstatic 23, 3, 1), (15, 0, .iload_n 0, 1, 0), (16, 0, .iaload, 1, 0), (17, 0, .goto 4, 3, 21), (20, 0, .iconst 0, 1, 0), (21, 0, .ireturn, 1, 0)]
abbrev cX4_down : ByteArray := prog_6_method_5_code
def yX4_down : MethodName := ⟨RX4, "down", "(I)I"⟩
def cdX4_down : List Ent := [(0, 0, .iload_n 0, 1, 0), (1, 0, .ifCond .lt 19, 3, 20), (4, 0, .iload_n 0, 1, 0), (5, 0, .getstatic 27, 3, 2), (8, 0, .arraylength, 1, 0), (9, 0, .if_icmp .ge 11, 3, 20), (12, 0, .getstatic 27, 3, 2), (15, 0, .iload_n 0, 1, 0), (16, 0, .iaload, 1, 0), (17, 0, .goto 4, 3, 21), (20, 0, .iconst 0, 1, 0), (21, 0, .ireturn, 1, 0)]
abbrev cX4_greater : ByteArray := prog_6_method_6_code
def yX4_greater : MethodName := ⟨RX4, "greater", "()I"⟩
def cdX4_greater : List Ent := [(0, 0, .aload_n 0, 1, 0), (1, 0, .getfield 7, 3, 400), (4, 0, .invokestatic 30, 3, 1003), (7, 0, .aload_n 0, 1, 0), (8, 0, .getfield 13, 3, 401), (11, 0, .invokestatic 30, 3, 1003), (14, 0, .invokestatic 35, 3, 1001), (17, 0, .ireturn, 1, 0)]
abbrev cX5_begin : ByteArray := prog_7_method_2_code
def yX5_begin : MethodName := ⟨RX5, "begin", "(LHayRemembers$Yard;IZ)V"⟩
def cdX5_begin : List Ent := [(0, 0, .aload_n 0, 1, 0), (1, 0, .aload_n 1, 1, 0), (2, 0, .iload_n 2, 1, 0), (3, 0, .invokevirtual 50, 3, 66), (6, 0, .bipush 12, 2, 0), (8, 0, .invokestatic 56, 3, 1002), (11, 0, .putfield 62, 3, 505), (14, 0, .aload_n 0, 1, 0), (15, 0, .iload_n 3, 1, 0), (16, 0, .putfield 66, 3, 506), (19, 0, .iconst 0, 1, 0), (20, 0, .istore 4, 2, 0), (22, 1, .iload 4, 2, 0), (24, 0, .aload_n 0, 1, 0), (25, 0, .getfield 62, 3, 505), (28, 0, .if_icmp .ge 45, 3, 73), (31, 0, .iconst 0, 1, 0), (32, 0, .istore 5, 2, 0), (34, 1, .iload 5, 2, 0), (36, 0, .iconst 3, 1, 0), (37, 0, .if_icmp .gt 30, 3, 67), (40, 0, .aload_n 0, 1, 0), (41, 0, .getfield 18, 3, 504), (44, 0, .iload 4, 2, 0), (46, 0, .iconst 4, 1, 0), (47, 0, .imul, 1, 0), (48, 0, .iload 5, 2, 0), (50, 0, .iadd, 1, 0), (51, 0, .aload_n 1, 1, 0), (52, 0, .iload_n 2, 1, 0), (53, 0, .iload 4, 2, 0), (55, 0, .iload 5, 2, 0), (57, 0, .invokevirtual 70, 3, 68), (60, 0, .iastore, 1, 0), (61, 0, .iinc 5 1, 3, 0), (64, 0, .goto (-30), 3, 34), (67, 0, .iinc 4 1, 3, 0), (70, 0, .goto (-48), 3, 22), (73, 0, .aload_n 0, 1, 0), (74, 0, .getfield 22, 3, 507), (77, 0, .iconst (-1), 1, 0), (78, 0, .invokestatic 74, 3, 122), (81, 0, .return_, 1, 0)]
abbrev cX5_addHour : ByteArray := prog_7_method_3_code
def yX5_addHour : MethodName := ⟨RX5, "addHour", "(I)V"⟩
def cdX5_addHour : List Ent := [(0, 0, .aload_n 0, 1, 0), (1, 0, .getfield 62, 3, 505), (4, 0, .bipush 12, 2, 0), (6, 0, .if_icmp .ge 81, 3, 87), (9, 0, .aload_n 0, 1, 0), (10, 0, .getfield 18, 3, 504), (13, 0, .aload_n 0, 1, 0), (14, 0, .getfield 62, 3, 505), (17, 0, .iconst 4, 1, 0), (18, 0, .imul, 1, 0), (19, 0, .iconst 0, 1, 0), (20, 0, .iadd, 1, 0), (21, 0, .iload_n 1, 1, 0), (22, 0, .bipush 10, 2, 0), (24, 0, .idiv, 1, 0), (25, 0, .bipush 10, 2, 0), (27, 0, .irem, 1, 0), (28, 0, .iastore, 1, 0), (29, 0, .aload_n 0, 1, 0), (30, 0, .getfield 18, 3, 504), (33, 0, .aload_n 0, 1, 0), (34, 0, .getfield 62, 3, 505), (37, 0, .iconst 4, 1, 0), (38, 0, .imul, 1, 0), (39, 0, .iconst 1, 1, 0), (40, 0, .iadd, 1, 0), (41, 0, .iload_n 1, 1, 0), (42, 0, .bipush 100, 2, 0), (44, 0, .idiv, 1, 0), (45, 0, .iastore, 1, 0), (46, 0, .aload_n 0, 1, 0), (47, 0, .getfield 18, 3, 504), (50, 0, .aload_n 0, 1, 0), (51, 0, .getfield 62, 3, 505), (54, 0, .iconst 4, 1, 0), (55, 0, .imul, 1, 0), (56, 0, .iconst 2, 1, 0), (57, 0, .iadd, 1, 0), (58, 0, .iload_n 1, 1, 0), (59, 0, .bipush 10, 2, 0), (61, 0, .irem, 1, 0), (62, 0, .iastore, 1, 0), (63, 0, .aload_n 0, 1, 0), (64, 0, .getfield 18, 3, 504), (67, 0, .aload_n 0, 1, 0), (68, 0, .getfield 62, 3, 505), (71, 0, .iconst 4, 1, 0), (72, 0, .imul, 1, 0), (73, 0, .iconst 3, 1, 0), (74, 0, .iadd, 1, 0), (75, 0, .iconst 0, 1, 0), (76, 0, .iastore, 1, 0), (77, 0, .aload_n 0, 1, 0), (78, 0, .dup, 1, 0), (79, 0, .getfield 62, 3, 505), (82, 0, .iconst 1, 1, 0), (83, 0, .iadd, 1, 0), (84, 0, .putfield 62, 3, 505), (87, 0, .return_, 1, 0)]
abbrev cX5_bestAt : ByteArray := prog_7_method_4_code
def yX5_bestAt : MethodName := ⟨RX5, "bestAt", "(I)I"⟩
def cdX5_bestAt : List Ent := [(0, 0, .iload_n 1, 1, 0), (1, 0, .ifCond .lt 21, 3, 22), (4, 0, .iload_n 1, 1, 0), (5, 0, .aload_n 0, 1, 0), (6, 0, .getfield 28, 3, 509), (9, 0, .arraylength, 1, 0), (10, 0, .if_icmp .ge 12, 3, 22), (13, 0, .aload_n 0, 1, 0), (14, 0, .getfield 28, 3, 509), (17, 0, .iload_n 1, 1, 0), (18, 0, .iaload, 1, 0), (19, 0, .goto 5, 3, 24), (22, 0, .bipush (-2), 2, 0), (24, 0, .ireturn, 1, 0)]
abbrev cX5_number : ByteArray := prog_7_method_5_code
def yX5_number : MethodName := ⟨RX5, "number", "(II)I"⟩
def cdX5_number : List Ent := [(0, 0, .iload_n 1, 1, 0), (1, 0, .ifCond .lt 31, 3, 32), (4, 0, .iload_n 1, 1, 0), (5, 0, .bipush 12, 2, 0), (7, 0, .if_icmp .ge 25, 3, 32), (10, 0, .iload_n 2, 1, 0), (11, 0, .ifCond .lt 21, 3, 32), (14, 0, .iload_n 2, 1, 0), (15, 0, .iconst 3, 1, 0), (16, 0, .if_icmp .gt 16, 3, 32), (19, 0, .aload_n 0, 1, 0), (20, 0, .getfield 18, 3, 504), (23, 0, .iload_n 1, 1, 0), (24, 0, .iconst 4, 1, 0), (25, 0, .imul, 1, 0), (26, 0, .iload_n 2, 1, 0), (27, 0, .iadd, 1, 0), (28, 0, .iaload, 1, 0), (29, 0, .goto 4, 3, 33), (32, 0, .iconst 0, 1, 0), (33, 0, .ireturn, 1, 0)]
abbrev cX5_amount : ByteArray := prog_7_method_6_code
def yX5_amount : MethodName := ⟨RX5, "amount", "(III)I"⟩
def cdX5_amount : List Ent := [(0, 0, .iload_n 1, 1, 0), (1, 0, .ifCond .lt 29, 3, 30), (4, 0, .iload_n 1, 1, 0), (5, 0, .bipush 12, 2, 0), (7, 0, .if_icmp .ge 23, 3, 30), (10, 0, .iload_n 2, 1, 0), (11, 0, .ifCond .lt 19, 3, 30), (14, 0, .iload_n 2, 1, 0), (15, 0, .bipush 12, 2, 0), (17, 0, .if_icmp .ge 13, 3, 30), (20, 0, .iload_n 3, 1, 0), (21, 0, .ifCond .lt 9, 3, 30), (24, 0, .iload_n 3, 1, 0), (25, 0, .bipush 12, 2, 0), (27, 0, .if_icmp .lt 5, 3, 32), (30, 0, .iconst 0, 1, 0), (31, 0, .ireturn, 1, 0), (32, 0, .iload_n 1, 1, 0), (33, 0, .bipush 12, 2, 0), (35, 0, .imul, 1, 0), (36, 0, .iload_n 2, 1, 0), (37, 0, .iadd, 1, 0), (38, 0, .bipush 12, 2, 0), (40, 0, .imul, 1, 0), (41, 0, .iload_n 3, 1, 0), (42, 0, .iadd, 1, 0), (43, 0, .istore 4, 2, 0), (45, 0, .aload_n 0, 1, 0), (46, 0, .getfield 22, 3, 507), (49, 0, .iload 4, 2, 0), (51, 0, .iaload, 1, 0), (52, 0, .ifCond .ge 72, 3, 124), (55, 0, .aload_n 0, 1, 0), (56, 0, .getfield 66, 3, 506), (59, 0, .ifCond .eq 16, 3, 75), (62, 0, .aload_n 0, 1, 0), (63, 0, .getfield 62, 3, 505), (66, 0, .iconst 1, 1, 0), (67, 0, .isub, 1, 0), (68, 0, .iload_n 2, 1, 0), (69, 0, .isub, 1, 0), (70, 0, .iload_n 3, 1, 0), (71, 0, .isub, 1, 0), (72, 0, .goto 4, 3, 76), (75, 0, .iconst 0, 1, 0), (76, 0, .istore 5, 2, 0), (78, 0, .bipush 99, 2, 0), (80, 0, .aload_n 0, 1, 0), (81, 0, .iload_n 1, 1, 0), (82, 0, .iconst 3, 1, 0), (83, 0, .invokevirtual 80, 3, 38), (86, 0, .iload 5, 2, 0), (88, 0, .iadd, 1, 0), (89, 0, .invokestatic 56, 3, 1002), (92, 0, .istore 6, 2, 0), (94, 0, .aload_n 0, 1, 0), (95, 0, .getfield 22, 3, 507), (98, 0, .iload 4, 2, 0), (100, 0, .aload_n 0, 1, 0), (101, 0, .getfield 46, 3, 502), (104, 0, .aload_n 0, 1, 0), (105, 0, .iload_n 1, 1, 0), (106, 0, .iconst 1, 1, 0), (107, 0, .invokevirtual 80, 3, 38), (110, 0, .iload 6, 2, 0), (112, 0, .aload_n 0, 1, 0), (113, 0, .iload_n 1, 1, 0), (114, 0, .iconst 2, 1, 0), (115, 0, .invokevirtual 80, 3, 38), (118, 0, .iload_n 2, 1, 0), (119, 0, .iload_n 3, 1, 0), (120, 0, .invokevirtual 82, 3, 9), (123, 0, .iastore, 1, 0), (124, 0, .aload_n 0, 1, 0), (125, 0, .getfield 22, 3, 507), (128, 0, .iload 4, 2, 0), (130, 0, .iaload, 1, 0), (131, 0, .ireturn, 1, 0)]
abbrev cX5_keepPath : ByteArray := prog_7_method_7_code
def yX5_keepPath : MethodName := ⟨RX5, "keepPath", "(I)V"⟩
def cdX5_keepPath : List Ent := [(0, 0, .iconst 0, 1, 0), (1, 0, .istore_n 2, 1, 0), (2, 1, .iload_n 2, 1, 0), (3, 0, .iload_n 1, 1, 0), (4, 0, .if_icmp .ge 27, 3, 31), (7, 0, .iload_n 2, 1, 0), (8, 0, .bipush 12, 2, 0), (10, 0, .if_icmp .ge 21, 3, 31), (13, 0, .aload_n 0, 1, 0), (14, 0, .getfield 28, 3, 509), (17, 0, .iload_n 2, 1, 0), (18, 0, .aload_n 0, 1, 0), (19, 0, .getfield 25, 3, 508), (22, 0, .iload_n 2, 1, 0), (23, 0, .iaload, 1, 0), (24, 0, .iastore, 1, 0), (25, 0, .iinc 2 1, 3, 0), (28, 0, .goto (-26), 3, 2), (31, 0, .return_, 1, 0)]
abbrev cX5_layBest : ByteArray := prog_7_method_8_code
def yX5_layBest : MethodName := ⟨RX5, "layBest", "(I)Z"⟩
def cdX5_layBest : List Ent := [(0, 0, .aload_n 0, 1, 0), (1, 0, .getfield 62, 3, 505), (4, 0, .iload_n 1, 1, 0), (5, 0, .isub, 1, 0), (6, 0, .istore_n 2, 1, 0), (7, 0, .iconst 0, 1, 0), (8, 0, .istore_n 3, 1, 0), (9, 1, .iload_n 3, 1, 0), (10, 0, .iload_n 1, 1, 0), (11, 0, .if_icmp .gt 47, 3, 58), (14, 0, .iload_n 3, 1, 0), (15, 0, .bipush 7, 2, 0), (17, 0, .if_icmp .gt 41, 3, 58), (20, 0, .aload_n 0, 1, 0), (21, 0, .iload_n 2, 1, 0), (22, 0, .iload_n 3, 1, 0), (23, 0, .invokevirtual 88, 3, 42), (26, 0, .aload_n 0, 1, 0), (27, 0, .getfield 31, 3, 510), (30, 0, .iload_n 3, 1, 0), (31, 0, .aload_n 0, 1, 0), (32, 0, .getfield 12, 3, 503), (35, 0, .getfield 92, 3, 400), (38, 0, .iastore, 1, 0), (39, 0, .aload_n 0, 1, 0), (40, 0, .getfield 34, 3, 511), (43, 0, .iload_n 3, 1, 0), (44, 0, .aload_n 0, 1, 0), (45, 0, .getfield 12, 3, 503), (48, 0, .getfield 95, 3, 401), (51, 0, .iastore, 1, 0), (52, 0, .iinc 3 1, 3, 0), (55, 0, .goto (-46), 3, 9), (58, 0, .aload_n 0, 1, 0), (59, 0, .aload_n 0, 1, 0), (60, 0, .getfield 46, 3, 502), (63, 0, .getfield 98, 3, 201), (66, 0, .iconst 1, 1, 0), (67, 0, .iadd, 1, 0), (68, 0, .putfield 101, 3, 500), (71, 0, .aload_n 0, 1, 0), (72, 0, .iconst 0, 1, 0), (73, 0, .iload_n 1, 1, 0), (74, 0, .iconst 0, 1, 0), (75, 0, .iconst 0, 1, 0), (76, 0, .invokevirtual 104, 3, 43), (79, 0, .aload_n 0, 1, 0), (80, 0, .getfield 101, 3, 500), (83, 0, .aload_n 0, 1, 0), (84, 0, .getfield 46, 3, 502), (87, 0, .getfield 98, 3, 201), (90, 0, .if_icmp .gt 7, 3, 97), (93, 0, .iconst 1, 1, 0), (94, 0, .goto 4, 3, 98), (97, 0, .iconst 0, 1, 0), (98, 0, .ireturn, 1, 0)]
abbrev cX5_leanOfBase : ByteArray := prog_7_method_9_code
def yX5_leanOfBase : MethodName := ⟨RX5, "leanOfBase", "(II)V"⟩
def cdX5_leanOfBase : List Ent := [(0, 0, .aload_n 0, 1, 0), (1, 0, .getfield 12, 3, 503), (4, 0, .iconst 0, 1, 0), (5, 0, .iconst 0, 1, 0), (6, 0, .invokevirtual 108, 3, 30), (9, 0, .iconst 0, 1, 0), (10, 0, .istore_n 3, 1, 0), (11, 1, .iload_n 3, 1, 0), (12, 0, .iload_n 1, 1, 0), (13, 0, .if_icmp .ge 35, 3, 48), (16, 0, .aload_n 0, 1, 0), (17, 0, .getfield 12, 3, 503), (20, 0, .aload_n 0, 1, 0), (21, 0, .iload_n 3, 1, 0), (22, 0, .iconst 0, 1, 0), (23, 0, .invokevirtual 80, 3, 38), (26, 0, .aload_n 0, 1, 0), (27, 0, .iload_n 3, 1, 0), (28, 0, .iload_n 3, 1, 0), (29, 0, .iload_n 1, 1, 0), (30, 0, .iconst 1, 1, 0), (31, 0, .isub, 1, 0), (32, 0, .iload_n 3, 1, 0), (33, 0, .isub, 1, 0), (34, 0, .iload_n 2, 1, 0), (35, 0, .iadd, 1, 0), (36, 0, .invokevirtual 111, 3, 39), (39, 0, .invokevirtual 113, 3, 31), (42, 0, .iinc 3 1, 3, 0), (45, 0, .goto (-34), 3, 11), (48, 0, .return_, 1, 0)]
abbrev cX5_layNext : ByteArray := prog_7_method_10_code
def yX5_layNext : MethodName := ⟨RX5, "layNext", "(IIII)V"⟩
def cdX5_layNext : List Ent := [(0, 0, .iload_n 1, 1, 0), (1, 0, .iload_n 2, 1, 0), (2, 0, .if_icmp .ge 9, 3, 11), (5, 0, .iload_n 1, 1, 0), (6, 0, .bipush 7, 2, 0), (8, 0, .if_icmp .lt 15, 3, 23), (11, 0, .aload_n 0, 1, 0), (12, 0, .iload 4, 2, 0), (14, 0, .putfield 101, 3, 500), (17, 0, .aload_n 0, 1, 0), (18, 0, .iload_n 2, 1, 0), (19, 0, .invokevirtual 116, 3, 40), (22, 0, .return_, 1, 0), (23, 0, .iconst 0, 1, 0), (24, 0, .istore 5, 2, 0), (26, 1, .iload 5, 2, 0), (28, 0, .iload_n 2, 1, 0), (29, 0, .if_icmp .ge 66, 3, 95), (32, 0, .iload_n 3, 1, 0), (33, 0, .iload 5, 2, 0), (35, 0, .ishr, 1, 0), (36, 0, .iconst 1, 1, 0), (37, 0, .iand, 1, 0), (38, 0, .ifCond .ne 51, 3, 89), (41, 0, .aload_n 0, 1, 0), (42, 0, .getfield 25, 3, 508), (45, 0, .iload_n 1, 1, 0), (46, 0, .iload 5, 2, 0), (48, 0, .iastore, 1, 0), (49, 0, .iload 4, 2, 0), (51, 0, .aload_n 0, 1, 0), (52, 0, .iload_n 1, 1, 0), (53, 0, .iconst 1, 1, 0), (54, 0, .iadd, 1, 0), (55, 0, .iload_n 2, 1, 0), (56, 0, .invokevirtual 120, 3, 44), (59, 0, .invokestatic 123, 3, 1001), (62, 0, .istore 6, 2, 0), (64, 0, .iload 6, 2, 0), (66, 0, .aload_n 0, 1, 0), (67, 0, .getfield 101, 3, 500), (70, 0, .if_icmp .ge 19, 3, 89), (73, 0, .aload_n 0, 1, 0), (74, 0, .iload_n 1, 1, 0), (75, 0, .iconst 1, 1, 0), (76, 0, .iadd, 1, 0), (77, 0, .iload_n 2, 1, 0), (78, 0, .iload_n 3, 1, 0), (79, 0, .iconst 1, 1, 0), (80, 0, .iload 5, 2, 0), (82, 0, .ishl, 1, 0), (83, 0, .ior, 1, 0), (84, 0, .iload 6, 2, 0), (86, 0, .invokevirtual 104, 3, 43), (89, 0, .iinc 5 1, 3, 0), (92, 0, .goto (-66), 3, 26), (95, 0, .return_, 1, 0)]
abbrev cX5_leanBehind : ByteArray := prog_7_method_11_code
def yX5_leanBehind : MethodName := ⟨RX5, "leanBehind", "(II)I"⟩
def cdX5_leanBehind : List Ent := [(0, 0, .aload_n 0, 1, 0), (1, 0, .getfield 62, 3, 505), (4, 0, .iload_n 2, 1, 0), (5, 0, .isub, 1, 0), (6, 0, .istore_n 3, 1, 0), (7, 0, .iload_n 1, 1, 0), (8, 0, .ifCond .lt 9, 3, 17), (11, 0, .iload_n 1, 1, 0), (12, 0, .bipush 7, 2, 0), (14, 0, .if_icmp .le 5, 3, 19), (17, 0, .iconst 0, 1, 0), (18, 0, .ireturn, 1, 0), (19, 0, .aload_n 0, 1, 0), (20, 0, .getfield 12, 3, 503), (23, 0, .aload_n 0, 1, 0), (24, 0, .getfield 31, 3, 510), (27, 0, .iload_n 1, 1, 0), (28, 0, .iaload, 1, 0), (29, 0, .aload_n 0, 1, 0), (30, 0, .getfield 34, 3, 511), (33, 0, .iload_n 1, 1, 0), (34, 0, .iaload, 1, 0), (35, 0, .invokevirtual 108, 3, 30), (38, 0, .iconst 0, 1, 0), (39, 0, .istore 4, 2, 0), (41, 1, .iload 4, 2, 0), (43, 0, .iload_n 1, 1, 0), (44, 0, .if_icmp .ge 50, 3, 94), (47, 0, .iload_n 3, 1, 0), (48, 0, .aload_n 0, 1, 0), (49, 0, .getfield 25, 3, 508), (52, 0, .iload 4, 2, 0), (54, 0, .iaload, 1, 0), (55, 0, .iadd, 1, 0), (56, 0, .istore 5, 2, 0), (58, 0, .aload_n 0, 1, 0), (59, 0, .getfield 12, 3, 503), (62, 0, .aload_n 0, 1, 0), (63, 0, .iload 5, 2, 0), (65, 0, .iconst 0, 1, 0), (66, 0, .invokevirtual 80, 3, 38), (69, 0, .aload_n 0, 1, 0), (70, 0, .iload 5, 2, 0), (72, 0, .iload_n 3, 1, 0), (73, 0, .iload 4, 2, 0), (75, 0, .iadd, 1, 0), (76, 0, .iload_n 1, 1, 0), (77, 0, .iconst 1, 1, 0), (78, 0, .isub, 1, 0), (79, 0, .iload 4, 2, 0), (81, 0, .isub, 1, 0), (82, 0, .invokevirtual 111, 3, 39), (85, 0, .invokevirtual 113, 3, 31), (88, 0, .iinc 4 1, 3, 0), (91, 0, .goto (-50), 3, 41), (94, 0, .aload_n 0, 1, 0), (95, 0, .getfield 12, 3, 503), (98, 0, .invokevirtual 126, 3, 34), (101, 0, .ireturn, 1, 0)]
abbrev cX5_letOutBest : ByteArray := prog_7_method_12_code
def yX5_letOutBest : MethodName := ⟨RX5, "letOutBest", "(I)Z"⟩
def cdX5_letOutBest : List Ent := [(0, 0, .iconst 1, 1, 0), (1, 0, .aload_n 0, 1, 0), (2, 0, .getfield 62, 3, 505), (5, 0, .ishl, 1, 0), (6, 0, .iconst 1, 1, 0), (7, 0, .isub, 1, 0), (8, 0, .istore_n 2, 1, 0), (9, 0, .aload_n 0, 1, 0), (10, 0, .iload_n 1, 1, 0), (11, 0, .invokevirtual 130, 3, 46), (14, 0, .ifCond .ne 5, 3, 19), (17, 0, .iconst 0, 1, 0), (18, 0, .ireturn, 1, 0), (19, 0, .aload_n 0, 1, 0), (20, 0, .getfield 43, 3, 514), (23, 0, .iconst 0, 1, 0), (24, 0, .invokestatic 74, 3, 122), (27, 0, .aload_n 0, 1, 0), (28, 0, .getfield 40, 3, 513), (31, 0, .iconst 0, 1, 0), (32, 0, .iload_n 2, 1, 0), (33, 0, .iastore, 1, 0), (34, 0, .iconst 1, 1, 0), (35, 0, .istore_n 3, 1, 0), (36, 0, .iconst 0, 1, 0), (37, 0, .istore 4, 2, 0), (39, 1, .iload 4, 2, 0), (41, 0, .iload_n 3, 1, 0), (42, 0, .if_icmp .ge 139, 3, 181), (45, 0, .iload 4, 2, 0), (47, 0, .aload_n 0, 1, 0), (48, 0, .getfield 40, 3, 513), (51, 0, .arraylength, 1, 0), (52, 0, .if_icmp .ge 129, 3, 181), (55, 0, .aload_n 0, 1, 0), (56, 0, .getfield 40, 3, 513), (59, 0, .iload 4, 2, 0), (61, 0, .iaload, 1, 0), (62, 0, .istore 5, 2, 0), (64, 0, .iconst 0, 1, 0), (65, 0, .istore 6, 2, 0), (67, 1, .iload 6, 2, 0), (69, 0, .aload_n 0, 1, 0), (70, 0, .getfield 62, 3, 505), (73, 0, .if_icmp .ge 102, 3, 175), (76, 0, .iload 5, 2, 0), (78, 0, .iconst 1, 1, 0), (79, 0, .iload 6, 2, 0), (81, 0, .ishl, 1, 0), (82, 0, .iconst (-1), 1, 0), (83, 0, .ixor, 1, 0), (84, 0, .iand, 1, 0), (85, 0, .istore 7, 2, 0), (87, 0, .iload 7, 2, 0), (89, 0, .iload 5, 2, 0), (91, 0, .if_icmp .eq 78, 3, 169), (94, 0, .aload_n 0, 1, 0), (95, 0, .iload 7, 2, 0), (97, 0, .invokevirtual 134, 3, 47), (100, 0, .ifCond .ne 6, 3, 106), (103, 0, .goto 66, 3, 169), (106, 0, .aload_n 0, 1, 0), (107, 0, .iload 6, 2, 0), (109, 0, .iconst 2, 1, 0), (110, 0, .invokevirtual 80, 3, 38), (113, 0, .iload_n 1, 1, 0), (114, 0, .if_icmp .ne 14, 3, 128), (117, 0, .aload_n 0, 1, 0), (118, 0, .iload_n 2, 1, 0), (119, 0, .iload 5, 2, 0), (121, 0, .iload 6, 2, 0), (123, 0, .invokevirtual 137, 3, 48), (126, 0, .iconst 1, 1, 0), (127, 0, .ireturn, 1, 0), (128, 0, .aload_n 0, 1, 0), (129, 0, .getfield 43, 3, 514), (132, 0, .iload 7, 2, 0), (134, 0, .iaload, 1, 0), (135, 0, .ifCond .ne 34, 3, 169), (138, 0, .iload_n 3, 1, 0), (139, 0, .aload_n 0, 1, 0), (140, 0, .getfield 40, 3, 513), (143, 0, .arraylength, 1, 0), (144, 0, .if_icmp .ge 25, 3, 169), (147, 0, .aload_n 0, 1, 0), (148, 0, .getfield 43, 3, 514), (151, 0, .iload 7, 2, 0), (153, 0, .iload 6, 2, 0), (155, 0, .iconst 1, 1, 0), (156, 0, .iadd, 1, 0), (157, 0, .iastore, 1, 0), (158, 0, .aload_n 0, 1, 0), (159, 0, .getfield 40, 3, 513), (162, 0, .iload_n 3, 1, 0), (163, 0, .iload 7, 2, 0), (165, 0, .iastore, 1, 0), (166, 0, .iinc 3 1, 3, 0), (169, 0, .iinc 6 1, 3, 0), (172, 0, .goto (-105), 3, 67), (175, 0, .iinc 4 1, 3, 0), (178, 0, .goto (-139), 3, 39), (181, 0, .iconst 0, 1, 0), (182, 0, .ireturn, 1, 0)]
abbrev cX5_hasMark : ByteArray := prog_7_method_13_code
def yX5_hasMark : MethodName := ⟨RX5, "hasMark", "(I)Z"⟩
def cdX5_hasMark : List Ent := [(0, 0, .iconst 0, 1, 0), (1, 0, .istore_n 2, 1, 0), (2, 1, .iload_n 2, 1, 0), (3, 0, .aload_n 0, 1, 0), (4, 0, .getfield 62, 3, 505), (7, 0, .if_icmp .ge 21, 3, 28), (10, 0, .aload_n 0, 1, 0), (11, 0, .iload_n 2, 1, 0), (12, 0, .iconst 2, 1, 0), (13, 0, .invokevirtual 80, 3, 38), (16, 0, .iload_n 1, 1, 0), (17, 0, .if_icmp .ne 5, 3, 22), (20, 0, .iconst 1, 1, 0), (21, 0, .ireturn, 1, 0), (22, 0, .iinc 2 1, 3, 0), (25, 0, .goto (-23), 3, 2), (28, 0, .iconst 0, 1, 0), (29, 0, .ireturn, 1, 0)]
abbrev cX5_isStanding : ByteArray := prog_7_method_14_code
def yX5_isStanding : MethodName := ⟨RX5, "isStanding", "(I)Z"⟩
def cdX5_isStanding : List Ent := [(0, 0, .iload_n 1, 1, 0), (1, 0, .ifCond .lt 12, 3, 13), (4, 0, .iload_n 1, 1, 0), (5, 0, .aload_n 0, 1, 0), (6, 0, .getfield 43, 3, 514), (9, 0, .arraylength, 1, 0), (10, 0, .if_icmp .lt 5, 3, 15), (13, 0, .iconst 0, 1, 0), (14, 0, .ireturn, 1, 0), (15, 0, .aload_n 0, 1, 0), (16, 0, .getfield 43, 3, 514), (19, 0, .iload_n 1, 1, 0), (20, 0, .iaload, 1, 0), (21, 0, .ifCond .ne 96, 3, 117), (24, 0, .aload_n 0, 1, 0), (25, 0, .getfield 12, 3, 503), (28, 0, .iconst 0, 1, 0), (29, 0, .iconst 0, 1, 0), (30, 0, .invokevirtual 108, 3, 30), (33, 0, .iload_n 1, 1, 0), (34, 0, .invokestatic 141, 3, 112), (37, 0, .istore_n 2, 1, 0), (38, 0, .iconst 0, 1, 0), (39, 0, .istore_n 3, 1, 0), (40, 0, .iconst 0, 1, 0), (41, 0, .istore 4, 2, 0), (43, 1, .iload 4, 2, 0), (45, 0, .aload_n 0, 1, 0), (46, 0, .getfield 62, 3, 505), (49, 0, .if_icmp .ge 47, 3, 96), (52, 0, .iload_n 1, 1, 0), (53, 0, .iload 4, 2, 0), (55, 0, .ishr, 1, 0), (56, 0, .iconst 1, 1, 0), (57, 0, .iand, 1, 0), (58, 0, .ifCond .eq 32, 3, 90), (61, 0, .aload_n 0, 1, 0), (62, 0, .getfield 12, 3, 503), (65, 0, .aload_n 0, 1, 0), (66, 0, .iload 4, 2, 0), (68, 0, .iconst 0, 1, 0), (69, 0, .invokevirtual 80, 3, 38), (72, 0, .aload_n 0, 1, 0), (73, 0, .iload 4, 2, 0), (75, 0, .iload_n 3, 1, 0), (76, 0, .iload_n 2, 1, 0), (77, 0, .iconst 1, 1, 0), (78, 0, .isub, 1, 0), (79, 0, .iload_n 3, 1, 0), (80, 0, .isub, 1, 0), (81, 0, .invokevirtual 111, 3, 39), (84, 0, .invokevirtual 113, 3, 31), (87, 0, .iinc 3 1, 3, 0), (90, 0, .iinc 4 1, 3, 0), (93, 0, .goto (-50), 3, 43), (96, 0, .aload_n 0, 1, 0), (97, 0, .getfield 46, 3, 502), (100, 0, .aload_n 0, 1, 0), (101, 0, .getfield 12, 3, 503), (104, 0, .invokevirtual 146, 3, 7), (107, 0, .ifCond .ne 10, 3, 117), (110, 0, .aload_n 0, 1, 0), (111, 0, .getfield 43, 3, 514), (114, 0, .iload_n 1, 1, 0), (115, 0, .iconst (-1), 1, 0), (116, 0, .iastore, 1, 0), (117, 0, .aload_n 0, 1, 0), (118, 0, .getfield 43, 3, 514), (121, 0, .iload_n 1, 1, 0), (122, 0, .iaload, 1, 0), (123, 0, .ifCond .lt 7, 3, 130), (126, 0, .iconst 1, 1, 0), (127, 0, .goto 4, 3, 131), (130, 0, .iconst 0, 1, 0), (131, 0, .ireturn, 1, 0)]
abbrev cX5_keepCuts : ByteArray := prog_7_method_15_code
def yX5_keepCuts : MethodName := ⟨RX5, "keepCuts", "(III)V"⟩
def cdX5_keepCuts : List Ent := [(0, 0, .aload_n 0, 1, 0), (1, 0, .aload_n 0, 1, 0), (2, 0, .getfield 62, 3, 505), (5, 0, .iload_n 2, 1, 0), (6, 0, .invokestatic 141, 3, 112), (9, 0, .isub, 1, 0), (10, 0, .iconst 1, 1, 0), (11, 0, .iadd, 1, 0), (12, 0, .putfield 101, 3, 500), (15, 0, .iload_n 3, 1, 0), (16, 0, .istore 4, 2, 0), (18, 0, .iload_n 2, 1, 0), (19, 0, .istore 5, 2, 0), (21, 0, .aload_n 0, 1, 0), (22, 0, .getfield 101, 3, 500), (25, 0, .iconst 1, 1, 0), (26, 0, .isub, 1, 0), (27, 0, .istore 6, 2, 0), (29, 1, .iload 6, 2, 0), (31, 0, .ifCond .lt 75, 3, 106), (34, 0, .iload 6, 2, 0), (36, 0, .bipush 12, 2, 0), (38, 0, .if_icmp .ge 68, 3, 106), (41, 0, .aload_n 0, 1, 0), (42, 0, .getfield 28, 3, 509), (45, 0, .iload 6, 2, 0), (47, 0, .iload 4, 2, 0), (49, 0, .iastore, 1, 0), (50, 0, .iload 5, 2, 0), (52, 0, .iload_n 1, 1, 0), (53, 0, .if_icmp .eq 47, 3, 100), (56, 0, .iload 5, 2, 0), (58, 0, .ifCond .lt 42, 3, 100), (61, 0, .iload 5, 2, 0), (63, 0, .aload_n 0, 1, 0), (64, 0, .getfield 43, 3, 514), (67, 0, .arraylength, 1, 0), (68, 0, .if_icmp .ge 32, 3, 100), (71, 0, .aload_n 0, 1, 0), (72, 0, .getfield 43, 3, 514), (75, 0, .iload 5, 2, 0), (77, 0, .iaload, 1, 0), (78, 0, .iconst 1, 1, 0), (79, 0, .isub, 1, 0), (80, 0, .istore 4, 2, 0), (82, 0, .iload 5, 2, 0), (84, 0, .iload 4, 2, 0), (86, 0, .ifCond .lt 10, 3, 96), (89, 0, .iconst 1, 1, 0), (90, 0, .iload 4, 2, 0), (92, 0, .ishl, 1, 0), (93, 0, .goto 4, 3, 97), (96, 0, .iconst 0, 1, 0), (97, 0, .ior, 1, 0), (98, 0, .istore 5, 2, 0), (100, 0, .iinc 6 (-1), 3, 0), (103, 0, .goto (-74), 3, 29), (106, 0, .return_, 1, 0)]
abbrev cX5_sellBest : ByteArray := prog_7_method_16_code
def yX5_sellBest : MethodName := ⟨RX5, "sellBest", "(I)V"⟩
def cdX5_sellBest : List Ent := [(0, 0, .aload_n 0, 1, 0), (1, 0, .iconst (-1), 1, 0), (2, 0, .putfield 101, 3, 500), (5, 0, .aload_n 0, 1, 0), (6, 0, .iconst 0, 1, 0), (7, 0, .iload_n 1, 1, 0), (8, 0, .iconst 1, 1, 0), (9, 0, .aload_n 0, 1, 0), (10, 0, .getfield 62, 3, 505), (13, 0, .ishl, 1, 0), (14, 0, .iconst 1, 1, 0), (15, 0, .isub, 1, 0), (16, 0, .iconst 0, 1, 0), (17, 0, .invokevirtual 150, 3, 50), (20, 0, .return_, 1, 0)]
abbrev cX5_sellNext : ByteArray := prog_7_method_17_code
def yX5_sellNext : MethodName := ⟨RX5, "sellNext", "(IIII)V"⟩
def cdX5_sellNext : List Ent := [(0, 0, .iload_n 1, 1, 0), (1, 0, .iload_n 2, 1, 0), (2, 0, .if_icmp .ge 9, 3, 11), (5, 0, .iload_n 1, 1, 0), (6, 0, .bipush 12, 2, 0), (8, 0, .if_icmp .lt 15, 3, 23), (11, 0, .aload_n 0, 1, 0), (12, 0, .iload 4, 2, 0), (14, 0, .putfield 101, 3, 500), (17, 0, .aload_n 0, 1, 0), (18, 0, .iload_n 2, 1, 0), (19, 0, .invokevirtual 116, 3, 40), (22, 0, .return_, 1, 0), (23, 0, .iload_n 3, 1, 0), (24, 0, .invokestatic 141, 3, 112), (27, 0, .istore 5, 2, 0), (29, 0, .iconst 0, 1, 0), (30, 0, .istore 6, 2, 0), (32, 0, .iconst 0, 1, 0), (33, 0, .istore 7, 2, 0), (35, 1, .iload 7, 2, 0), (37, 0, .aload_n 0, 1, 0), (38, 0, .getfield 62, 3, 505), (41, 0, .if_icmp .ge 85, 3, 126), (44, 0, .iload_n 3, 1, 0), (45, 0, .iload 7, 2, 0), (47, 0, .ishr, 1, 0), (48, 0, .iconst 1, 1, 0), (49, 0, .iand, 1, 0), (50, 0, .ifCond .eq 70, 3, 120), (53, 0, .aload_n 0, 1, 0), (54, 0, .getfield 25, 3, 508), (57, 0, .iload_n 1, 1, 0), (58, 0, .iload 7, 2, 0), (60, 0, .iastore, 1, 0), (61, 0, .iload 4, 2, 0), (63, 0, .aload_n 0, 1, 0), (64, 0, .iload 7, 2, 0), (66, 0, .iload 6, 2, 0), (68, 0, .iload 5, 2, 0), (70, 0, .iconst 1, 1, 0), (71, 0, .isub, 1, 0), (72, 0, .iload 6, 2, 0), (74, 0, .isub, 1, 0), (75, 0, .invokevirtual 111, 3, 39), (78, 0, .iadd, 1, 0), (79, 0, .istore 8, 2, 0), (81, 0, .iload 8, 2, 0), (83, 0, .bipush 9, 2, 0), (85, 0, .iload_n 2, 1, 0), (86, 0, .iconst 1, 1, 0), (87, 0, .isub, 1, 0), (88, 0, .iload_n 1, 1, 0), (89, 0, .isub, 1, 0), (90, 0, .imul, 1, 0), (91, 0, .iadd, 1, 0), (92, 0, .aload_n 0, 1, 0), (93, 0, .getfield 101, 3, 500), (96, 0, .if_icmp .le 21, 3, 117), (99, 0, .aload_n 0, 1, 0), (100, 0, .iload_n 1, 1, 0), (101, 0, .iconst 1, 1, 0), (102, 0, .iadd, 1, 0), (103, 0, .iload_n 2, 1, 0), (104, 0, .iload_n 3, 1, 0), (105, 0, .iconst 1, 1, 0), (106, 0, .iload 7, 2, 0), (108, 0, .ishl, 1, 0), (109, 0, .iconst (-1), 1, 0), (110, 0, .ixor, 1, 0), (111, 0, .iand, 1, 0), (112, 0, .iload 8, 2, 0), (114, 0, .invokevirtual 150, 3, 50), (117, 0, .iinc 6 1, 3, 0), (120, 0, .iinc 7 1, 3, 0), (123, 0, .goto (-88), 3, 35), (126, 0, .return_, 1, 0)]
abbrev cX5_turnsBest : ByteArray := prog_7_method_18_code
def yX5_turnsBest : MethodName := ⟨RX5, "turnsBest", "(I)V"⟩
def cdX5_turnsBest : List Ent := [(0, 0, .iconst 0, 1, 0), (1, 0, .istore_n 2, 1, 0), (2, 1, .iload_n 2, 1, 0), (3, 0, .iload_n 1, 1, 0), (4, 0, .if_icmp .ge 41, 3, 45), (7, 0, .iload_n 2, 1, 0), (8, 0, .iconst 4, 1, 0), (9, 0, .if_icmp .ge 36, 3, 45), (12, 0, .aload_n 0, 1, 0), (13, 0, .getfield 37, 3, 512), (16, 0, .iload_n 2, 1, 0), (17, 0, .aload_n 0, 1, 0), (18, 0, .getfield 46, 3, 502), (21, 0, .iconst 5, 1, 0), (22, 0, .iconst 0, 1, 0), (23, 0, .iconst 0, 1, 0), (24, 0, .aload_n 0, 1, 0), (25, 0, .getfield 62, 3, 505), (28, 0, .iload_n 2, 1, 0), (29, 0, .iadd, 1, 0), (30, 0, .iload_n 1, 1, 0), (31, 0, .iconst 1, 1, 0), (32, 0, .isub, 1, 0), (33, 0, .iload_n 2, 1, 0), (34, 0, .isub, 1, 0), (35, 0, .invokevirtual 82, 3, 9), (38, 0, .iastore, 1, 0), (39, 0, .iinc 2 1, 3, 0), (42, 0, .goto (-40), 3, 2), (45, 0, .aload_n 0, 1, 0), (46, 0, .aload_n 0, 1, 0), (47, 0, .getfield 62, 3, 505), (50, 0, .iload_n 1, 1, 0), (51, 0, .invokevirtual 88, 3, 42), (54, 0, .aload_n 0, 1, 0), (55, 0, .iconst 0, 1, 0), (56, 0, .putfield 153, 3, 501), (59, 0, .aload_n 0, 1, 0), (60, 0, .aload_n 0, 1, 0), (61, 0, .iconst 0, 1, 0), (62, 0, .iload_n 1, 1, 0), (63, 0, .aload_n 0, 1, 0), (64, 0, .getfield 12, 3, 503), (67, 0, .getfield 92, 3, 400), (70, 0, .aload_n 0, 1, 0), (71, 0, .getfield 12, 3, 503), (74, 0, .getfield 95, 3, 401), (77, 0, .invokevirtual 156, 3, 52), (80, 0, .putfield 101, 3, 500), (83, 0, .return_, 1, 0)]
abbrev cX5_turnNext : ByteArray := prog_7_method_19_code
def yX5_turnNext : MethodName := ⟨RX5, "turnNext", "(IIII)I"⟩
def cdX5_turnNext : List Ent := [(0, 0, .iload_n 1, 1, 0), (1, 0, .iload_n 2, 1, 0), (2, 0, .if_icmp .ge 8, 3, 10), (5, 0, .iload_n 1, 1, 0), (6, 0, .iconst 4, 1, 0), (7, 0, .if_icmp .lt 16, 3, 23), (10, 0, .iload_n 3, 1, 0), (11, 0, .invokestatic 160, 3, 1003), (14, 0, .iload 4, 2, 0), (16, 0, .invokestatic 160, 3, 1003), (19, 0, .invokestatic 123, 3, 1001), (22, 0, .ireturn, 1, 0), (23, 0, .iload_n 1, 1, 0), (24, 0, .iconst 2, 1, 0), (25, 0, .irem, 1, 0), (26, 0, .ifCond .ne 7, 3, 33), (29, 0, .iconst 1, 1, 0), (30, 0, .goto 4, 3, 34), (33, 0, .iconst 0, 1, 0), (34, 0, .istore 5, 2, 0), (36, 0, .iconst (-1), 1, 0), (37, 0, .istore 6, 2, 0), (39, 0, .iconst 0, 1, 0), (40, 0, .istore 7, 2, 0), (42, 1, .iload 7, 2, 0), (44, 0, .bipush 7, 2, 0), (46, 0, .if_icmp .gt 104, 3, 150), (49, 0, .iload_n 3, 1, 0), (50, 0, .aload_n 0, 1, 0), (51, 0, .getfield 37, 3, 512), (54, 0, .iload_n 1, 1, 0), (55, 0, .iaload, 1, 0), (56, 0, .iload 7, 2, 0), (58, 0, .invokestatic 163, 3, 32), (61, 0, .imul, 1, 0), (62, 0, .iadd, 1, 0), (63, 0, .istore 8, 2, 0), (65, 0, .iload 4, 2, 0), (67, 0, .aload_n 0, 1, 0), (68, 0, .getfield 37, 3, 512), (71, 0, .iload_n 1, 1, 0), (72, 0, .iaload, 1, 0), (73, 0, .iload 7, 2, 0), (75, 0, .invokestatic 166, 3, 33), (78, 0, .imul, 1, 0), (79, 0, .iadd, 1, 0), (80, 0, .istore 9, 2, 0), (82, 0, .aload_n 0, 1, 0), (83, 0, .iload_n 1, 1, 0), (84, 0, .iconst 1, 1, 0), (85, 0, .iadd, 1, 0), (86, 0, .iload_n 2, 1, 0), (87, 0, .iload 8, 2, 0), (89, 0, .iload 9, 2, 0), (91, 0, .invokevirtual 156, 3, 52), (94, 0, .istore 10, 2, 0), (96, 0, .iload 6, 2, 0), (98, 0, .ifCond .lt 25, 3, 123), (101, 0, .iload 5, 2, 0), (103, 0, .ifCond .eq 13, 3, 116), (106, 0, .iload 10, 2, 0), (108, 0, .iload 6, 2, 0), (110, 0, .if_icmp .ge 34, 3, 144), (113, 0, .goto 10, 3, 123), (116, 0, .iload 10, 2, 0), (118, 0, .iload 6, 2, 0), (120, 0, .if_icmp .le 24, 3, 144), (123, 0, .iload 10, 2, 0), (125, 0, .istore 6, 2, 0), (127, 0, .aload_n 0, 1, 0), (128, 0, .iload_n 1, 1, 0), (129, 0, .ifCond .ne 8, 3, 137), (132, 0, .iload 7, 2, 0), (134, 0, .goto 7, 3, 141), (137, 0, .aload_n 0, 1, 0), (138, 0, .getfield 153, 3, 501), (141, 0, .putfield 153, 3, 501), (144, 0, .iinc 7 1, 3, 0), (147, 0, .goto (-105), 3, 42), (150, 0, .iload 6, 2, 0), (152, 0, .ireturn, 1, 0)]
abbrev cX6_length : ByteArray := prog_8_method_5_code
def yX6_length : MethodName := ⟨RX6, "length", "()I"⟩
def cdX6_length : List Ent := [(0, 0, .aload_n 0, 1, 0), (1, 0, .getfield 11, 3, 600), (4, 0, .iconst 2, 1, 0), (5, 0, .if_icmp .ne 10, 3, 15), (8, 0, .aload_n 0, 1, 0), (9, 0, .getfield 22, 3, 603), (12, 0, .goto 4, 3, 16), (15, 0, .iconst 0, 1, 0), (16, 0, .ireturn, 1, 0)]
abbrev cX6_holdRow : ByteArray := prog_8_method_8_code
def yX6_holdRow : MethodName := ⟨RX6, "holdRow", "(II)V"⟩
def cdX6_holdRow : List Ent := [(0, 0, .aload_n 0, 1, 0), (1, 0, .iconst 2, 1, 0), (2, 0, .putfield 11, 3, 600), (5, 0, .aload_n 0, 1, 0), (6, 0, .iload_n 1, 1, 0), (7, 0, .putfield 19, 3, 602), (10, 0, .aload_n 0, 1, 0), (11, 0, .iload_n 2, 1, 0), (12, 0, .putfield 22, 3, 603), (15, 0, .aload_n 0, 1, 0), (16, 0, .getfield 15, 3, 604), (19, 0, .lconst 0, 1, 0), (20, 0, .invokestatic 28, 3, 121), (23, 0, .return_, 1, 0)]
abbrev cX6_refusal : ByteArray := prog_8_method_9_code
def yX6_refusal : MethodName := ⟨RX6, "refusal", "(I)I"⟩
def cdX6_refusal : List Ent := [(0, 0, .aload_n 0, 1, 0), (1, 0, .getfield 11, 3, 600), (4, 0, .ifCond .ne 6, 3, 10), (7, 0, .bipush (-11), 2, 0), (9, 0, .ireturn, 1, 0), (10, 0, .aload_n 0, 1, 0), (11, 0, .getfield 11, 3, 600), (14, 0, .iconst 2, 1, 0), (15, 0, .if_icmp .ne 15, 3, 30), (18, 0, .aload_n 0, 1, 0), (19, 0, .getfield 19, 3, 602), (22, 0, .iload_n 1, 1, 0), (23, 0, .if_icmp .ne 7, 3, 30), (26, 0, .iconst 0, 1, 0), (27, 0, .goto 5, 3, 32), (30, 0, .bipush (-12), 2, 0), (32, 0, .ireturn, 1, 0)]
abbrev cX6_refusalAt : ByteArray := prog_8_method_10_code
def yX6_refusalAt : MethodName := ⟨RX6, "refusalAt", "(I)I"⟩
def cdX6_refusalAt : List Ent := [(0, 0, .aload_n 0, 1, 0), (1, 0, .getfield 11, 3, 600), (4, 0, .ifCond .ne 6, 3, 10), (7, 0, .bipush (-11), 2, 0), (9, 0, .ireturn, 1, 0), (10, 0, .aload_n 0, 1, 0), (11, 0, .getfield 11, 3, 600), (14, 0, .iconst 2, 1, 0), (15, 0, .if_icmp .eq 6, 3, 21), (18, 0, .bipush (-12), 2, 0), (20, 0, .ireturn, 1, 0), (21, 0, .iload_n 1, 1, 0), (22, 0, .ifCond .lt 15, 3, 37), (25, 0, .iload_n 1, 1, 0), (26, 0, .aload_n 0, 1, 0), (27, 0, .getfield 22, 3, 603), (30, 0, .if_icmp .ge 7, 3, 37), (33, 0, .iconst 0, 1, 0), (34, 0, .goto 5, 3, 39), (37, 0, .bipush (-13), 2, 0), (39, 0, .ireturn, 1, 0)]
abbrev cX6_cell : ByteArray := prog_8_method_12_code
def yX6_cell : MethodName := ⟨RX6, "cell", "(I)J"⟩
def cdX6_cell : List Ent := [(0, 0, .iload_n 1, 1, 0), (1, 0, .ifCond .lt 26, 3, 27), (4, 0, .iload_n 1, 1, 0), (5, 0, .aload_n 0, 1, 0), (6, 0, .invokevirtual 34, 3, 53), (9, 0, .if_icmp .ge 18, 3, 27), (12, 0, .iload_n 1, 1, 0), (13, 0, .bipush 60, 2, 0), (15, 0, .if_icmp .ge 12, 3, 27), (18, 0, .aload_n 0, 1, 0), (19, 0, .getfield 15, 3, 604), (22, 0, .iload_n 1, 1, 0), (23, 0, .laload, 1, 0), (24, 0, .goto 4, 3, 28), (27, 0, .lconst 0, 1, 0), (28, 0, .lreturn, 1, 0)]
abbrev cX6_write : ByteArray := prog_8_method_13_code
def yX6_write : MethodName := ⟨RX6, "write", "(IJ)V"⟩
def cdX6_write : List Ent := [(0, 0, .iload_n 1, 1, 0), (1, 0, .ifCond .lt 28, 3, 29), (4, 0, .iload_n 1, 1, 0), (5, 0, .aload_n 0, 1, 0), (6, 0, .invokevirtual 34, 3, 53), (9, 0, .if_icmp .ge 20, 3, 29), (12, 0, .iload_n 1, 1, 0), (13, 0, .bipush 60, 2, 0), (15, 0, .if_icmp .ge 14, 3, 29), (18, 0, .aload_n 0, 1, 0), (19, 0, .getfield 15, 3, 604), (22, 0, .iload_n 1, 1, 0), (23, 0, .aload_n 0, 1, 0), (24, 0, .lload_n 2, 1, 0), (25, 0, .invokevirtual 37, 3, 59), (28, 0, .lastore, 1, 0), (29, 0, .return_, 1, 0)]
abbrev cX6_lowestBits : ByteArray := prog_8_method_14_code
def yX6_lowestBits : MethodName := ⟨RX6, "lowestBits", "(J)J"⟩
def cdX6_lowestBits : List Ent := [(0, 0, .aload_n 0, 1, 0), (1, 0, .getfield 19, 3, 602), (4, 0, .tableswitch 48 0 3 #[32, 37, 42, 46], 32, 0), (36, 0, .lload_n 1, 1, 0), (37, 0, .l2i, 1, 0), (38, 0, .i2b, 1, 0), (39, 0, .i2l, 1, 0), (40, 0, .lreturn, 1, 0), (41, 0, .lload_n 1, 1, 0), (42, 0, .l2i, 1, 0), (43, 0, .i2s, 1, 0), (44, 0, .i2l, 1, 0), (45, 0, .lreturn, 1, 0), (46, 0, .lload_n 1, 1, 0), (47, 0, .l2i, 1, 0), (48, 0, .i2l, 1, 0), (49, 0, .lreturn, 1, 0), (50, 0, .lload_n 1, 1, 0), (51, 0, .lreturn, 1, 0), (52, 0, .lload_n 1, 1, 0), (53, 0, .lconst 0, 1, 0), (54, 0, .lcmp, 1, 0), (55, 0, .ifCond .eq 7, 3, 62), (58, 0, .lconst 1, 1, 0), (59, 0, .goto 4, 3, 63), (62, 0, .lconst 0, 1, 0), (63, 0, .lreturn, 1, 0)]
abbrev cX7_begin : ByteArray := prog_9_method_2_code
def yX7_begin : MethodName := ⟨RX7, "begin", "(LHayRemembers$Yard;)V"⟩
def cdX7_begin : List Ent := [(0, 0, .aload_n 0, 1, 0), (1, 0, .getfield 12, 3, 700), (4, 0, .aload_n 1, 1, 0), (5, 0, .invokevirtual 29, 3, 64), (8, 0, .aload_n 0, 1, 0), (9, 0, .iconst 0, 1, 0), (10, 0, .putfield 33, 3, 701), (13, 0, .aload_n 0, 1, 0), (14, 0, .iconst 0, 1, 0), (15, 0, .putfield 37, 3, 702), (18, 0, .aload_n 0, 1, 0), (19, 0, .bipush (-2), 2, 0), (21, 0, .putfield 40, 3, 703), (24, 0, .aload_n 0, 1, 0), (25, 0, .bipush (-2), 2, 0), (27, 0, .putfield 43, 3, 704), (30, 0, .aload_n 0, 1, 0), (31, 0, .iconst 0, 1, 0), (32, 0, .putfield 46, 3, 705), (35, 0, .return_, 1, 0)]
abbrev cX7_run : ByteArray := prog_9_method_3_code
def yX7_run : MethodName := ⟨RX7, "run", "(LHayRemembers$Yard;LHayRemembers$Shelf;I)V"⟩
def cdX7_run : List Ent := [(0, 0, .aload_n 0, 1, 0), (1, 0, .aload_n 1, 1, 0), (2, 0, .invokevirtual 49, 3, 60), (5, 0, .iconst 0, 1, 0), (6, 0, .istore 4, 2, 0), (8, 1, .iload 4, 2, 0), (10, 0, .iload_n 3, 1, 0), (11, 0, .if_icmp .ge 94, 3, 105), (14, 0, .iload 4, 2, 0), (16, 0, .aload_n 2, 1, 0), (17, 0, .invokevirtual 52, 3, 53), (20, 0, .if_icmp .ge 85, 3, 105), (23, 0, .aload_n 2, 1, 0), (24, 0, .iload 4, 2, 0), (26, 0, .invokevirtual 58, 3, 57), (29, 0, .l2i, 1, 0), (30, 0, .istore 5, 2, 0), (32, 0, .iload 5, 2, 0), (34, 0, .ifCond .lt 28, 3, 62), (37, 0, .aload_n 0, 1, 0), (38, 0, .getfield 12, 3, 700), (41, 0, .iload 5, 2, 0), (43, 0, .bipush 16, 2, 0), (45, 0, .idiv, 1, 0), (46, 0, .invokevirtual 62, 3, 65), (49, 0, .ifCond .eq 13, 3, 62), (52, 0, .iload 5, 2, 0), (54, 0, .bipush 16, 2, 0), (56, 0, .irem, 1, 0), (57, 0, .bipush 12, 2, 0), (59, 0, .if_icmp .lt 4, 3, 63), (62, 0, .return_, 1, 0), (63, 0, .aload_n 0, 1, 0), (64, 0, .getfield 12, 3, 700), (67, 0, .iload 5, 2, 0), (69, 0, .bipush 16, 2, 0), (71, 0, .idiv, 1, 0), (72, 0, .iload 5, 2, 0), (74, 0, .bipush 16, 2, 0), (76, 0, .irem, 1, 0), (77, 0, .invokevirtual 66, 3, 67), (80, 0, .ifCond .eq 19, 3, 99), (83, 0, .aload_n 0, 1, 0), (84, 0, .iload 5, 2, 0), (86, 0, .bipush 16, 2, 0), (88, 0, .idiv, 1, 0), (89, 0, .iload 5, 2, 0), (91, 0, .bipush 16, 2, 0), (93, 0, .irem, 1, 0), (94, 0, .iload 4, 2, 0), (96, 0, .invokevirtual 70, 3, 62), (99, 0, .iinc 4 1, 3, 0), (102, 0, .goto (-94), 3, 8), (105, 0, .return_, 1, 0)]
abbrev cX7_cutOne : ByteArray := prog_9_method_4_code
def yX7_cutOne : MethodName := ⟨RX7, "cutOne", "(III)V"⟩
def cdX7_cutOne : List Ent := [(0, 0, .aload_n 0, 1, 0), (1, 0, .getfield 12, 3, 700), (4, 0, .iload_n 1, 1, 0), (5, 0, .iload_n 2, 1, 0), (6, 0, .iconst 2, 1, 0), (7, 0, .invokevirtual 74, 3, 68), (10, 0, .istore 4, 2, 0), (12, 0, .aload_n 0, 1, 0), (13, 0, .getfield 12, 3, 700), (16, 0, .iload_n 1, 1, 0), (17, 0, .iload_n 2, 1, 0), (18, 0, .iconst 0, 1, 0), (19, 0, .invokevirtual 74, 3, 68), (22, 0, .istore 5, 2, 0), (24, 0, .aload_n 0, 1, 0), (25, 0, .iload_n 1, 1, 0), (26, 0, .iload_n 2, 1, 0), (27, 0, .invokevirtual 78, 3, 63), (30, 0, .istore 6, 2, 0), (32, 0, .aload_n 0, 1, 0), (33, 0, .getfield 40, 3, 703), (36, 0, .bipush (-2), 2, 0), (38, 0, .if_icmp .ne 22, 3, 60), (41, 0, .iload 6, 2, 0), (43, 0, .aload_n 0, 1, 0), (44, 0, .getfield 25, 3, 706), (47, 0, .iload 5, 2, 0), (49, 0, .invokevirtual 82, 3, 5), (52, 0, .if_icmp .lt 8, 3, 60), (55, 0, .aload_n 0, 1, 0), (56, 0, .iload_n 3, 1, 0), (57, 0, .putfield 40, 3, 703), (60, 0, .iload 4, 2, 0), (62, 0, .ifCond .le 16, 3, 78), (65, 0, .aload_n 0, 1, 0), (66, 0, .dup, 1, 0), (67, 0, .getfield 46, 3, 705), (70, 0, .iconst 1, 1, 0), (71, 0, .iload 4, 2, 0), (73, 0, .ishl, 1, 0), (74, 0, .ior, 1, 0), (75, 0, .putfield 46, 3, 705), (78, 0, .aload_n 0, 1, 0), (79, 0, .getfield 43, 3, 704), (82, 0, .bipush (-2), 2, 0), (84, 0, .if_icmp .ne 43, 3, 127), (87, 0, .aload_n 0, 1, 0), (88, 0, .getfield 12, 3, 700), (91, 0, .aload_n 0, 1, 0), (92, 0, .getfield 25, 3, 706), (95, 0, .iload_n 1, 1, 0), (96, 0, .aload_n 0, 1, 0), (97, 0, .getfield 21, 3, 707), (100, 0, .invokevirtual 88, 3, 77), (103, 0, .aload_n 0, 1, 0), (104, 0, .aload_n 0, 1, 0), (105, 0, .getfield 25, 3, 706), (108, 0, .aload_n 0, 1, 0), (109, 0, .getfield 21, 3, 707), (112, 0, .invokevirtual 92, 3, 7), (115, 0, .ifCond .eq 8, 3, 123), (118, 0, .bipush (-2), 2, 0), (120, 0, .goto 4, 3, 124), (123, 0, .iload_n 3, 1, 0), (124, 0, .putfield 43, 3, 704), (127, 0, .return_, 1, 0)]
abbrev cX7_letGo : ByteArray := prog_9_method_5_code
def yX7_letGo : MethodName := ⟨RX7, "letGo", "(II)I"⟩
def cdX7_letGo : List Ent := [(0, 0, .aload_n 0, 1, 0), (1, 0, .getfield 12, 3, 700), (4, 0, .aload_n 0, 1, 0), (5, 0, .getfield 25, 3, 706), (8, 0, .iload_n 1, 1, 0), (9, 0, .iload_n 2, 1, 0), (10, 0, .invokevirtual 96, 3, 76), (13, 0, .istore_n 3, 1, 0), (14, 0, .aload_n 0, 1, 0), (15, 0, .getfield 12, 3, 700), (18, 0, .iload_n 1, 1, 0), (19, 0, .iload_n 2, 1, 0), (20, 0, .invokevirtual 100, 3, 72), (23, 0, .aload_n 0, 1, 0), (24, 0, .dup, 1, 0), (25, 0, .getfield 33, 3, 701), (28, 0, .iconst 1, 1, 0), (29, 0, .iadd, 1, 0), (30, 0, .putfield 33, 3, 701), (33, 0, .aload_n 0, 1, 0), (34, 0, .dup, 1, 0), (35, 0, .getfield 37, 3, 702), (38, 0, .iload_n 3, 1, 0), (39, 0, .iadd, 1, 0), (40, 0, .putfield 37, 3, 702), (43, 0, .iload_n 3, 1, 0), (44, 0, .ireturn, 1, 0)]
abbrev cX8_become : ByteArray := prog_10_method_2_code
def yX8_become : MethodName := ⟨RX8, "become", "(LHayRemembers$Yard;)V"⟩
def cdX8_become : List Ent := [(0, 0, .aload_n 0, 1, 0), (1, 0, .aload_n 1, 1, 0), (2, 0, .getfield 21, 3, 800), (5, 0, .putfield 21, 3, 800), (8, 0, .aload_n 1, 1, 0), (9, 0, .getfield 9, 3, 801), (12, 0, .iconst 0, 1, 0), (13, 0, .aload_n 0, 1, 0), (14, 0, .getfield 9, 3, 801), (17, 0, .iconst 0, 1, 0), (18, 0, .aload_n 0, 1, 0), (19, 0, .getfield 9, 3, 801), (22, 0, .arraylength, 1, 0), (23, 0, .invokestatic 25, 3, 1004), (26, 0, .aload_n 1, 1, 0), (27, 0, .getfield 18, 3, 803), (30, 0, .iconst 0, 1, 0), (31, 0, .aload_n 0, 1, 0), (32, 0, .getfield 18, 3, 803), (35, 0, .iconst 0, 1, 0), (36, 0, .aload_n 0, 1, 0), (37, 0, .getfield 18, 3, 803), (40, 0, .arraylength, 1, 0), (41, 0, .invokestatic 25, 3, 1004), (44, 0, .return_, 1, 0)]
abbrev cX8_hasRick : ByteArray := prog_10_method_3_code
def yX8_hasRick : MethodName := ⟨RX8, "hasRick", "(I)Z"⟩
def cdX8_hasRick : List Ent := [(0, 0, .iload_n 1, 1, 0), (1, 0, .ifCond .lt 20, 3, 21), (4, 0, .iload_n 1, 1, 0), (5, 0, .aload_n 0, 1, 0), (6, 0, .getfield 21, 3, 800), (9, 0, .if_icmp .ge 12, 3, 21), (12, 0, .iload_n 1, 1, 0), (13, 0, .iconst 4, 1, 0), (14, 0, .if_icmp .ge 7, 3, 21), (17, 0, .iconst 1, 1, 0), (18, 0, .goto 4, 3, 22), (21, 0, .iconst 0, 1, 0), (22, 0, .ireturn, 1, 0)]
abbrev cX8_height : ByteArray := prog_10_method_4_code
def yX8_height : MethodName := ⟨RX8, "height", "(I)I"⟩
def cdX8_height : List Ent := [(0, 0, .aload_n 0, 1, 0), (1, 0, .iload_n 1, 1, 0), (2, 0, .invokevirtual 31, 3, 65), (5, 0, .ifCond .eq 12, 3, 17), (8, 0, .aload_n 0, 1, 0), (9, 0, .getfield 18, 3, 803), (12, 0, .iload_n 1, 1, 0), (13, 0, .iaload, 1, 0), (14, 0, .goto 4, 3, 18), (17, 0, .iconst 0, 1, 0), (18, 0, .ireturn, 1, 0)]
abbrev cX8_hasLayer : ByteArray := prog_10_method_5_code
def yX8_hasLayer : MethodName := ⟨RX8, "hasLayer", "(II)Z"⟩
def cdX8_hasLayer : List Ent := [(0, 0, .iload_n 1, 1, 0), (1, 0, .ifCond .lt 32, 3, 33), (4, 0, .iload_n 1, 1, 0), (5, 0, .iconst 4, 1, 0), (6, 0, .if_icmp .ge 27, 3, 33), (9, 0, .iload_n 2, 1, 0), (10, 0, .ifCond .lt 23, 3, 33), (13, 0, .iload_n 2, 1, 0), (14, 0, .aload_n 0, 1, 0), (15, 0, .getfield 18, 3, 803), (18, 0, .iload_n 1, 1, 0), (19, 0, .iaload, 1, 0), (20, 0, .if_icmp .ge 13, 3, 33), (23, 0, .iload_n 2, 1, 0), (24, 0, .bipush 12, 2, 0), (26, 0, .if_icmp .ge 7, 3, 33), (29, 0, .iconst 1, 1, 0), (30, 0, .goto 4, 3, 34), (33, 0, .iconst 0, 1, 0), (34, 0, .ireturn, 1, 0)]
abbrev cX8_number : ByteArray := prog_10_method_6_code
def yX8_number : MethodName := ⟨RX8, "number", "(III)I"⟩
def cdX8_number : List Ent := [(0, 0, .aload_n 0, 1, 0), (1, 0, .iload_n 1, 1, 0), (2, 0, .iload_n 2, 1, 0), (3, 0, .invokevirtual 35, 3, 67), (6, 0, .ifCond .eq 16, 3, 22), (9, 0, .iload_n 3, 1, 0), (10, 0, .ifCond .lt 12, 3, 22), (13, 0, .iload_n 3, 1, 0), (14, 0, .iconst 3, 1, 0), (15, 0, .if_icmp .gt 7, 3, 22), (18, 0, .iconst 1, 1, 0), (19, 0, .goto 4, 3, 23), (22, 0, .iconst 0, 1, 0), (23, 0, .istore 4, 2, 0), (25, 0, .iload 4, 2, 0), (27, 0, .ifCond .eq 21, 3, 48), (30, 0, .aload_n 0, 1, 0), (31, 0, .getfield 9, 3, 801), (34, 0, .iload_n 1, 1, 0), (35, 0, .bipush 12, 2, 0), (37, 0, .imul, 1, 0), (38, 0, .iload_n 2, 1, 0), (39, 0, .iadd, 1, 0), (40, 0, .iconst 4, 1, 0), (41, 0, .imul, 1, 0), (42, 0, .iload_n 3, 1, 0), (43, 0, .iadd, 1, 0), (44, 0, .iaload, 1, 0), (45, 0, .goto 4, 3, 49), (48, 0, .iconst 0, 1, 0), (49, 0, .ireturn, 1, 0)]
abbrev cX8_nameOf : ByteArray := prog_10_method_7_code
def yX8_nameOf : MethodName := ⟨RX8, "nameOf", "(II)I"⟩
def cdX8_nameOf : List Ent := [(0, 0, .aload_n 0, 1, 0), (1, 0, .iload_n 1, 1, 0), (2, 0, .iload_n 2, 1, 0), (3, 0, .invokevirtual 35, 3, 67), (6, 0, .ifCond .eq 17, 3, 23), (9, 0, .aload_n 0, 1, 0), (10, 0, .getfield 15, 3, 802), (13, 0, .iload_n 1, 1, 0), (14, 0, .bipush 12, 2, 0), (16, 0, .imul, 1, 0), (17, 0, .iload_n 2, 1, 0), (18, 0, .iadd, 1, 0), (19, 0, .iaload, 1, 0), (20, 0, .goto 4, 3, 24), (23, 0, .iconst 0, 1, 0), (24, 0, .ireturn, 1, 0)]
abbrev cX8_layersOfAll : ByteArray := prog_10_method_8_code
def yX8_layersOfAll : MethodName := ⟨RX8, "layersOfAll", "()I"⟩
def cdX8_layersOfAll : List Ent := [(0, 0, .iconst 0, 1, 0), (1, 0, .istore_n 1, 1, 0), (2, 0, .iconst 0, 1, 0), (3, 0, .istore_n 2, 1, 0), (4, 1, .iload_n 2, 1, 0), (5, 0, .iconst 4, 1, 0), (6, 0, .if_icmp .ge 17, 3, 23), (9, 0, .iload_n 1, 1, 0), (10, 0, .aload_n 0, 1, 0), (11, 0, .iload_n 2, 1, 0), (12, 0, .invokevirtual 39, 3, 66), (15, 0, .iadd, 1, 0), (16, 0, .istore_n 1, 1, 0), (17, 0, .iinc 2 1, 3, 0), (20, 0, .goto (-16), 3, 4), (23, 0, .iload_n 1, 1, 0), (24, 0, .ireturn, 1, 0)]
abbrev cX8_putOn : ByteArray := prog_10_method_9_code
def yX8_putOn : MethodName := ⟨RX8, "putOn", "(III)I"⟩
def cdX8_putOn : List Ent := [(0, 0, .aload_n 0, 1, 0), (1, 0, .iload_n 1, 1, 0), (2, 0, .invokevirtual 39, 3, 66), (5, 0, .istore 4, 2, 0), (7, 0, .aload_n 0, 1, 0), (8, 0, .iload_n 1, 1, 0), (9, 0, .invokevirtual 31, 3, 65), (12, 0, .ifCond .eq 10, 3, 22), (15, 0, .iload 4, 2, 0), (17, 0, .bipush 12, 2, 0), (19, 0, .if_icmp .lt 6, 3, 25), (22, 0, .bipush (-3), 2, 0), (24, 0, .ireturn, 1, 0), (25, 0, .iload_n 1, 1, 0), (26, 0, .bipush 12, 2, 0), (28, 0, .imul, 1, 0), (29, 0, .iload 4, 2, 0), (31, 0, .iadd, 1, 0), (32, 0, .istore 5, 2, 0), (34, 0, .aload_n 0, 1, 0), (35, 0, .getfield 9, 3, 801), (38, 0, .iload 5, 2, 0), (40, 0, .iconst 4, 1, 0), (41, 0, .imul, 1, 0), (42, 0, .iconst 0, 1, 0), (43, 0, .iadd, 1, 0), (44, 0, .iload_n 2, 1, 0), (45, 0, .bipush 10, 2, 0), (47, 0, .idiv, 1, 0), (48, 0, .bipush 10, 2, 0), (50, 0, .irem, 1, 0), (51, 0, .iastore, 1, 0), (52, 0, .aload_n 0, 1, 0), (53, 0, .getfield 9, 3, 801), (56, 0, .iload 5, 2, 0), (58, 0, .iconst 4, 1, 0), (59, 0, .imul, 1, 0), (60, 0, .iconst 1, 1, 0), (61, 0, .iadd, 1, 0), (62, 0, .iload_n 2, 1, 0), (63, 0, .bipush 100, 2, 0), (65, 0, .idiv, 1, 0), (66, 0, .iastore, 1, 0), (67, 0, .aload_n 0, 1, 0), (68, 0, .getfield 9, 3, 801), (71, 0, .iload 5, 2, 0), (73, 0, .iconst 4, 1, 0), (74, 0, .imul, 1, 0), (75, 0, .iconst 2, 1, 0), (76, 0, .iadd, 1, 0), (77, 0, .iload_n 2, 1, 0), (78, 0, .bipush 10, 2, 0), (80, 0, .irem, 1, 0), (81, 0, .iastore, 1, 0), (82, 0, .aload_n 0, 1, 0), (83, 0, .getfield 9, 3, 801), (86, 0, .iload 5, 2, 0), (88, 0, .iconst 4, 1, 0), (89, 0, .imul, 1, 0), (90, 0, .iconst 3, 1, 0), (91, 0, .iadd, 1, 0), (92, 0, .iconst 0, 1, 0), (93, 0, .iastore, 1, 0), (94, 0, .aload_n 0, 1, 0), (95, 0, .getfield 15, 3, 802), (98, 0, .iload 5, 2, 0), (100, 0, .iload_n 3, 1, 0), (101, 0, .iastore, 1, 0), (102, 0, .aload_n 0, 1, 0), (103, 0, .getfield 18, 3, 803), (106, 0, .iload_n 1, 1, 0), (107, 0, .dup2, 1, 0), (108, 0, .iaload, 1, 0), (109, 0, .iconst 1, 1, 0), (110, 0, .iadd, 1, 0), (111, 0, .iastore, 1, 0), (112, 0, .iload 4, 2, 0), (114, 0, .ireturn, 1, 0)]
abbrev cX8_takeOut : ByteArray := prog_10_method_10_code
def yX8_takeOut : MethodName := ⟨RX8, "takeOut", "(II)V"⟩
def cdX8_takeOut : List Ent := [(0, 0, .aload_n 0, 1, 0), (1, 0, .iload_n 1, 1, 0), (2, 0, .iload_n 2, 1, 0), (3, 0, .invokevirtual 35, 3, 67), (6, 0, .ifCond .ne 4, 3, 10), (9, 0, .return_, 1, 0), (10, 0, .iload_n 1, 1, 0), (11, 0, .bipush 12, 2, 0), (13, 0, .imul, 1, 0), (14, 0, .iload_n 2, 1, 0), (15, 0, .iadd, 1, 0), (16, 0, .istore_n 3, 1, 0), (17, 0, .aload_n 0, 1, 0), (18, 0, .getfield 18, 3, 803), (21, 0, .iload_n 1, 1, 0), (22, 0, .iaload, 1, 0), (23, 0, .iconst 1, 1, 0), (24, 0, .isub, 1, 0), (25, 0, .iload_n 2, 1, 0), (26, 0, .isub, 1, 0), (27, 0, .istore 4, 2, 0), (29, 0, .iconst 0, 1, 0), (30, 0, .istore 5, 2, 0), (32, 1, .iload 5, 2, 0), (34, 0, .iload 4, 2, 0), (36, 0, .if_icmp .ge 43, 3, 79), (39, 0, .iload_n 3, 1, 0), (40, 0, .iload 5, 2, 0), (42, 0, .iadd, 1, 0), (43, 0, .iconst 1, 1, 0), (44, 0, .iadd, 1, 0), (45, 0, .aload_n 0, 1, 0), (46, 0, .getfield 15, 3, 802), (49, 0, .arraylength, 1, 0), (50, 0, .if_icmp .ge 29, 3, 79), (53, 0, .aload_n 0, 1, 0), (54, 0, .getfield 15, 3, 802), (57, 0, .iload_n 3, 1, 0), (58, 0, .iload 5, 2, 0), (60, 0, .iadd, 1, 0), (61, 0, .aload_n 0, 1, 0), (62, 0, .getfield 15, 3, 802), (65, 0, .iload_n 3, 1, 0), (66, 0, .iload 5, 2, 0), (68, 0, .iadd, 1, 0), (69, 0, .iconst 1, 1, 0), (70, 0, .iadd, 1, 0), (71, 0, .iaload, 1, 0), (72, 0, .iastore, 1, 0), (73, 0, .iinc 5 1, 3, 0), (76, 0, .goto (-44), 3, 32), (79, 0, .iload_n 3, 1, 0), (80, 0, .iconst 4, 1, 0), (81, 0, .imul, 1, 0), (82, 0, .istore 5, 2, 0), (84, 1, .iload 5, 2, 0), (86, 0, .iload_n 3, 1, 0), (87, 0, .iload 4, 2, 0), (89, 0, .iadd, 1, 0), (90, 0, .iconst 4, 1, 0), (91, 0, .imul, 1, 0), (92, 0, .if_icmp .ge 37, 3, 129), (95, 0, .iload 5, 2, 0), (97, 0, .iconst 4, 1, 0), (98, 0, .iadd, 1, 0), (99, 0, .aload_n 0, 1, 0), (100, 0, .getfield 9, 3, 801), (103, 0, .arraylength, 1, 0), (104, 0, .if_icmp .ge 25, 3, 129), (107, 0, .aload_n 0, 1, 0), (108, 0, .getfield 9, 3, 801), (111, 0, .iload 5, 2, 0), (113, 0, .aload_n 0, 1, 0), (114, 0, .getfield 9, 3, 801), (117, 0, .iload 5, 2, 0), (119, 0, .iconst 4, 1, 0), (120, 0, .iadd, 1, 0), (121, 0, .iaload, 1, 0), (122, 0, .iastore, 1, 0), (123, 0, .iinc 5 1, 3, 0), (126, 0, .goto (-42), 3, 84), (129, 0, .aload_n 0, 1, 0), (130, 0, .getfield 18, 3, 803), (133, 0, .iload_n 1, 1, 0), (134, 0, .dup2, 1, 0), (135, 0, .iaload, 1, 0), (136, 0, .iconst 1, 1, 0), (137, 0, .isub, 1, 0), (138, 0, .iastore, 1, 0), (139, 0, .return_, 1, 0)]
abbrev cX8_tellNamed : ByteArray := prog_10_method_11_code
def yX8_tellNamed : MethodName := ⟨RX8, "tellNamed", "(III)V"⟩
def cdX8_tellNamed : List Ent := [(0, 0, .iconst 0, 1, 0), (1, 0, .istore 4, 2, 0), (3, 1, .iload 4, 2, 0), (5, 0, .iconst 4, 1, 0), (6, 0, .if_icmp .ge 68, 3, 74), (9, 0, .iconst 0, 1, 0), (10, 0, .istore 5, 2, 0), (12, 1, .iload 5, 2, 0), (14, 0, .aload_n 0, 1, 0), (15, 0, .iload 4, 2, 0), (17, 0, .invokevirtual 39, 3, 66), (20, 0, .if_icmp .ge 48, 3, 68), (23, 0, .aload_n 0, 1, 0), (24, 0, .iload 4, 2, 0), (26, 0, .iload 5, 2, 0), (28, 0, .invokevirtual 43, 3, 69), (31, 0, .iload_n 1, 1, 0), (32, 0, .if_icmp .ne 30, 3, 62), (35, 0, .iload_n 2, 1, 0), (36, 0, .ifCond .lt 26, 3, 62), (39, 0, .iload_n 2, 1, 0), (40, 0, .iconst 3, 1, 0), (41, 0, .if_icmp .gt 21, 3, 62), (44, 0, .aload_n 0, 1, 0), (45, 0, .getfield 9, 3, 801), (48, 0, .iload 4, 2, 0), (50, 0, .bipush 12, 2, 0), (52, 0, .imul, 1, 0), (53, 0, .iload 5, 2, 0), (55, 0, .iadd, 1, 0), (56, 0, .iconst 4, 1, 0), (57, 0, .imul, 1, 0), (58, 0, .iload_n 2, 1, 0), (59, 0, .iadd, 1, 0), (60, 0, .iload_n 3, 1, 0), (61, 0, .iastore, 1, 0), (62, 0, .iinc 5 1, 3, 0), (65, 0, .goto (-53), 3, 12), (68, 0, .iinc 4 1, 3, 0), (71, 0, .goto (-68), 3, 3), (74, 0, .return_, 1, 0)]
abbrev cX8_nameAnew : ByteArray := prog_10_method_12_code
def yX8_nameAnew : MethodName := ⟨RX8, "nameAnew", "(I)I"⟩
def cdX8_nameAnew : List Ent := [(0, 0, .iload_n 1, 1, 0), (1, 0, .istore_n 2, 1, 0), (2, 0, .iconst 0, 1, 0), (3, 0, .istore_n 3, 1, 0), (4, 1, .iload_n 3, 1, 0), (5, 0, .aload_n 0, 1, 0), (6, 0, .getfield 15, 3, 802), (9, 0, .arraylength, 1, 0), (10, 0, .if_icmp .ge 19, 3, 29), (13, 0, .iinc 2 1, 3, 0), (16, 0, .aload_n 0, 1, 0), (17, 0, .getfield 15, 3, 802), (20, 0, .iload_n 3, 1, 0), (21, 0, .iload_n 2, 1, 0), (22, 0, .iastore, 1, 0), (23, 0, .iinc 3 1, 3, 0), (26, 0, .goto (-22), 3, 4), (29, 0, .iload_n 2, 1, 0), (30, 0, .ireturn, 1, 0)]
abbrev cX8_growOlder : ByteArray := prog_10_method_13_code
def yX8_growOlder : MethodName := ⟨RX8, "growOlder", "()V"⟩
def cdX8_growOlder : List Ent := [(0, 0, .iconst 3, 1, 0), (1, 0, .istore_n 1, 1, 0), (2, 1, .iload_n 1, 1, 0), (3, 0, .aload_n 0, 1, 0), (4, 0, .getfield 9, 3, 801), (7, 0, .arraylength, 1, 0), (8, 0, .if_icmp .ge 28, 3, 36), (11, 0, .aload_n 0, 1, 0), (12, 0, .getfield 9, 3, 801), (15, 0, .iload_n 1, 1, 0), (16, 0, .bipush 99, 2, 0), (18, 0, .aload_n 0, 1, 0), (19, 0, .getfield 9, 3, 801), (22, 0, .iload_n 1, 1, 0), (23, 0, .iaload, 1, 0), (24, 0, .iconst 1, 1, 0), (25, 0, .iadd, 1, 0), (26, 0, .invokestatic 47, 3, 1002), (29, 0, .iastore, 1, 0), (30, 0, .iinc 1 4, 3, 0), (33, 0, .goto (-31), 3, 2), (36, 0, .return_, 1, 0)]
abbrev cX8_kept : ByteArray := prog_10_method_14_code
def yX8_kept : MethodName := ⟨RX8, "kept", "(LHayRemembers$Law;II)I"⟩
def cdX8_kept : List Ent := [(0, 0, .aload_n 0, 1, 0), (1, 0, .iload_n 2, 1, 0), (2, 0, .iload_n 3, 1, 0), (3, 0, .iconst 1, 1, 0), (4, 0, .invokevirtual 52, 3, 68), (7, 0, .istore 4, 2, 0), (9, 0, .aload_n 0, 1, 0), (10, 0, .iload_n 2, 1, 0), (11, 0, .iload_n 3, 1, 0), (12, 0, .iconst 3, 1, 0), (13, 0, .invokevirtual 52, 3, 68), (16, 0, .istore 5, 2, 0), (18, 0, .aload_n 1, 1, 0), (19, 0, .iload 4, 2, 0), (21, 0, .iload 5, 2, 0), (23, 0, .aload_n 0, 1, 0), (24, 0, .iload_n 2, 1, 0), (25, 0, .iload_n 3, 1, 0), (26, 0, .iconst 2, 1, 0), (27, 0, .invokevirtual 52, 3, 68), (30, 0, .iload_n 3, 1, 0), (31, 0, .aload_n 0, 1, 0), (32, 0, .iload_n 2, 1, 0), (33, 0, .invokevirtual 39, 3, 66), (36, 0, .iconst 1, 1, 0), (37, 0, .isub, 1, 0), (38, 0, .iload_n 3, 1, 0), (39, 0, .isub, 1, 0), (40, 0, .invokevirtual 56, 3, 9), (43, 0, .ireturn, 1, 0)]
abbrev cX8_leanOf : ByteArray := prog_10_method_15_code
def yX8_leanOf : MethodName := ⟨RX8, "leanOf", "(LHayRemembers$Law;ILHayRemembers$Lean;)V"⟩
def cdX8_leanOf : List Ent := [(0, 0, .aload_n 3, 1, 0), (1, 0, .iconst 0, 1, 0), (2, 0, .iconst 0, 1, 0), (3, 0, .invokevirtual 62, 3, 30), (6, 0, .iconst 0, 1, 0), (7, 0, .istore 4, 2, 0), (9, 1, .iload 4, 2, 0), (11, 0, .aload_n 0, 1, 0), (12, 0, .iload_n 2, 1, 0), (13, 0, .invokevirtual 39, 3, 66), (16, 0, .if_icmp .ge 29, 3, 45), (19, 0, .aload_n 3, 1, 0), (20, 0, .aload_n 0, 1, 0), (21, 0, .iload_n 2, 1, 0), (22, 0, .iload 4, 2, 0), (24, 0, .iconst 0, 1, 0), (25, 0, .invokevirtual 52, 3, 68), (28, 0, .aload_n 0, 1, 0), (29, 0, .aload_n 1, 1, 0), (30, 0, .iload_n 2, 1, 0), (31, 0, .iload 4, 2, 0), (33, 0, .invokevirtual 68, 3, 76), (36, 0, .invokevirtual 72, 3, 31), (39, 0, .iinc 4 1, 3, 0), (42, 0, .goto (-33), 3, 9), (45, 0, .return_, 1, 0)]
abbrev cX9_rick : ByteArray := prog_1_method_2_code
def yX9_rick : MethodName := ⟨RX9, "rick", "()I"⟩
def cdX9_rick : List Ent := [(0, 0, .aload_n 0, 1, 0), (1, 0, .getfield 26, 3, 902), (4, 0, .getfield 84, 3, 800), (7, 0, .iconst 4, 1, 0), (8, 0, .if_icmp .lt 6, 3, 14), (11, 0, .bipush (-3), 2, 0), (13, 0, .ireturn, 1, 0), (14, 0, .aload_n 0, 1, 0), (15, 0, .getfield 26, 3, 902), (18, 0, .dup, 1, 0), (19, 0, .getfield 84, 3, 800), (22, 0, .iconst 1, 1, 0), (23, 0, .iadd, 1, 0), (24, 0, .putfield 84, 3, 800), (27, 0, .aload_n 0, 1, 0), (28, 0, .getfield 26, 3, 902), (31, 0, .getfield 84, 3, 800), (34, 0, .iconst 1, 1, 0), (35, 0, .isub, 1, 0), (36, 0, .ireturn, 1, 0)]
abbrev cX9_lay : ByteArray := prog_1_method_3_code
def yX9_lay : MethodName := ⟨RX9, "lay", "(II)I"⟩
def cdX9_lay : List Ent := [(0, 0, .aload_n 0, 1, 0), (1, 0, .getfield 26, 3, 902), (4, 0, .iload_n 1, 1, 0), (5, 0, .invokevirtual 88, 3, 65), (8, 0, .ifCond .eq 11, 3, 19), (11, 0, .iload_n 2, 1, 0), (12, 0, .i2l, 1, 0), (13, 0, .invokestatic 92, 3, 103), (16, 0, .ifCond .ne 5, 3, 21), (19, 0, .iconst (-1), 1, 0), (20, 0, .ireturn, 1, 0), (21, 0, .aload_n 0, 1, 0), (22, 0, .getfield 26, 3, 902), (25, 0, .iload_n 1, 1, 0), (26, 0, .invokevirtual 96, 3, 66), (29, 0, .bipush 12, 2, 0), (31, 0, .if_icmp .lt 6, 3, 37), (34, 0, .bipush (-3), 2, 0), (36, 0, .ireturn, 1, 0), (37, 0, .aload_n 0, 1, 0), (38, 0, .iload_n 1, 1, 0), (39, 0, .iload_n 2, 1, 0), (40, 0, .invokevirtual 100, 3, 104), (43, 0, .ireturn, 1, 0)]
abbrev cX9_mend : ByteArray := prog_1_method_5_code
def yX9_mend : MethodName := ⟨RX9, "mend", "(III)I"⟩
def cdX9_mend : List Ent := [(0, 0, .iload_n 2, 1, 0), (1, 0, .bipush 8, 2, 0), (3, 0, .if_icmp .ne 7, 3, 10), (6, 0, .iconst (-1), 1, 0), (7, 0, .goto 9, 3, 16), (10, 0, .aload_n 0, 1, 0), (11, 0, .iload_n 1, 1, 0), (12, 0, .iload_n 2, 1, 0), (13, 0, .invokevirtual 127, 3, 81), (16, 0, .istore 4, 2, 0), (18, 0, .iload 4, 2, 0), (20, 0, .iconst (-1), 1, 0), (21, 0, .if_icmp .eq 19, 3, 40), (24, 0, .iload_n 3, 1, 0), (25, 0, .iload_n 2, 1, 0), (26, 0, .invokestatic 130, 3, 106), (29, 0, .if_icmp .lt 11, 3, 40), (32, 0, .iload_n 3, 1, 0), (33, 0, .iload_n 2, 1, 0), (34, 0, .invokestatic 133, 3, 107), (37, 0, .if_icmp .le 5, 3, 42), (40, 0, .iconst (-1), 1, 0), (41, 0, .ireturn, 1, 0), (42, 0, .iload_n 3, 1, 0), (43, 0, .iload 4, 2, 0), (45, 0, .if_icmp .eq 50, 3, 95), (48, 0, .iload_n 2, 1, 0), (49, 0, .iconst 3, 1, 0), (50, 0, .if_icmp .gt 21, 3, 71), (53, 0, .aload_n 0, 1, 0), (54, 0, .getfield 26, 3, 902), (57, 0, .iload_n 1, 1, 0), (58, 0, .bipush 16, 2, 0), (60, 0, .idiv, 1, 0), (61, 0, .iload_n 1, 1, 0), (62, 0, .bipush 16, 2, 0), (64, 0, .irem, 1, 0), (65, 0, .invokevirtual 136, 3, 69), (68, 0, .goto 4, 3, 72), (71, 0, .iload_n 1, 1, 0), (72, 0, .istore 5, 2, 0), (74, 0, .aload_n 0, 1, 0), (75, 0, .getfield 59, 3, 907), (78, 0, .iload_n 2, 1, 0), (79, 0, .iload 5, 2, 0), (81, 0, .iload 4, 2, 0), (83, 0, .iload_n 3, 1, 0), (84, 0, .invokevirtual 139, 3, 3), (87, 0, .aload_n 0, 1, 0), (88, 0, .iload_n 2, 1, 0), (89, 0, .iload 5, 2, 0), (91, 0, .iload_n 3, 1, 0), (92, 0, .invokevirtual 143, 3, 108), (95, 0, .iload 4, 2, 0), (97, 0, .ireturn, 1, 0)]
abbrev cX9_of : ByteArray := prog_1_method_6_code
def yX9_of : MethodName := ⟨RX9, "of", "(II)I"⟩
def cdX9_of : List Ent := [(0, 0, .iload_n 1, 1, 0), (1, 0, .ifCond .ge 5, 3, 6), (4, 0, .iconst (-1), 1, 0), (5, 0, .ireturn, 1, 0), (6, 0, .iload_n 2, 1, 0), (7, 0, .ifCond .lt 49, 3, 56), (10, 0, .iload_n 2, 1, 0), (11, 0, .iconst 3, 1, 0), (12, 0, .if_icmp .gt 44, 3, 56), (15, 0, .aload_n 0, 1, 0), (16, 0, .getfield 26, 3, 902), (19, 0, .iload_n 1, 1, 0), (20, 0, .bipush 16, 2, 0), (22, 0, .idiv, 1, 0), (23, 0, .iload_n 1, 1, 0), (24, 0, .bipush 16, 2, 0), (26, 0, .irem, 1, 0), (27, 0, .invokevirtual 147, 3, 67), (30, 0, .istore_n 3, 1, 0), (31, 0, .iload_n 3, 1, 0), (32, 0, .ifCond .eq 22, 3, 54), (35, 0, .aload_n 0, 1, 0), (36, 0, .getfield 26, 3, 902), (39, 0, .iload_n 1, 1, 0), (40, 0, .bipush 16, 2, 0), (42, 0, .idiv, 1, 0), (43, 0, .iload_n 1, 1, 0), (44, 0, .bipush 16, 2, 0), (46, 0, .irem, 1, 0), (47, 0, .iload_n 2, 1, 0), (48, 0, .invokevirtual 150, 3, 68), (51, 0, .goto 4, 3, 55), (54, 0, .iconst (-1), 1, 0), (55, 0, .ireturn, 1, 0), (56, 0, .iload_n 2, 1, 0), (57, 0, .bipush 7, 2, 0), (59, 0, .if_icmp .ne 22, 3, 81), (62, 0, .iload_n 1, 1, 0), (63, 0, .bipush 7, 2, 0), (65, 0, .if_icmp .gt 14, 3, 79), (68, 0, .aload_n 0, 1, 0), (69, 0, .getfield 10, 3, 900), (72, 0, .iload_n 1, 1, 0), (73, 0, .invokevirtual 154, 3, 5), (76, 0, .goto 4, 3, 80), (79, 0, .iconst (-1), 1, 0), (80, 0, .ireturn, 1, 0), (81, 0, .iload_n 2, 1, 0), (82, 0, .bipush 8, 2, 0), (84, 0, .if_icmp .ne 27, 3, 111), (87, 0, .aload_n 0, 1, 0), (88, 0, .getfield 26, 3, 902), (91, 0, .iload_n 1, 1, 0), (92, 0, .invokevirtual 88, 3, 65), (95, 0, .ifCond .eq 14, 3, 109), (98, 0, .aload_n 0, 1, 0), (99, 0, .getfield 26, 3, 902), (102, 0, .iload_n 1, 1, 0), (103, 0, .invokevirtual 96, 3, 66), (106, 0, .goto 4, 3, 110), (109, 0, .iconst (-1), 1, 0), (110, 0, .ireturn, 1, 0), (111, 0, .iload_n 1, 1, 0), (112, 0, .ifCond .eq 5, 3, 117), (115, 0, .iconst (-1), 1, 0), (116, 0, .ireturn, 1, 0), (117, 0, .iload_n 2, 1, 0), (118, 0, .iconst 4, 1, 0), (119, 0, .if_icmp .ne 13, 3, 132), (122, 0, .aload_n 0, 1, 0), (123, 0, .getfield 10, 3, 900), (126, 0, .getfield 157, 3, 200), (129, 0, .goto 32, 3, 161), (132, 0, .iload_n 2, 1, 0), (133, 0, .iconst 5, 1, 0), (134, 0, .if_icmp .ne 13, 3, 147), (137, 0, .aload_n 0, 1, 0), (138, 0, .getfield 10, 3, 900), (141, 0, .getfield 160, 3, 201), (144, 0, .goto 17, 3, 161), (147, 0, .iload_n 2, 1, 0), (148, 0, .bipush 6, 2, 0), (150, 0, .if_icmp .ne 10, 3, 160), (153, 0, .aload_n 0, 1, 0), (154, 0, .getfield 163, 3, 913), (157, 0, .goto 4, 3, 161), (160, 0, .iconst (-1), 1, 0), (161, 0, .ireturn, 1, 0)]
abbrev cX9_feed : ByteArray := prog_1_method_7_code
def yX9_feed : MethodName := ⟨RX9, "feed", "(I)I"⟩
def cdX9_feed : List Ent := [(0, 0, .iload_n 1, 1, 0), (1, 0, .ifCond .lt 10, 3, 11), (4, 0, .iload_n 1, 1, 0), (5, 0, .sipush 255, 3, 0), (8, 0, .if_icmp .le 5, 3, 13), (11, 0, .iconst (-1), 1, 0), (12, 0, .ireturn, 1, 0), (13, 0, .aload_n 0, 1, 0), (14, 0, .getfield 19, 3, 901), (17, 0, .iload_n 1, 1, 0), (18, 0, .invokevirtual 166, 3, 19), (21, 0, .ifCond .eq 13, 3, 34), (24, 0, .aload_n 0, 1, 0), (25, 0, .getfield 19, 3, 901), (28, 0, .invokevirtual 169, 3, 16), (31, 0, .goto 5, 3, 36), (34, 0, .bipush (-3), 2, 0), (36, 0, .ireturn, 1, 0)]
abbrev cX9_law : ByteArray := prog_1_method_8_code
def yX9_law : MethodName := ⟨RX9, "law", "()I"⟩
def cdX9_law : List Ent := [(0, 0, .aload_n 0, 1, 0), (1, 0, .getfield 19, 3, 901), (4, 0, .invokevirtual 173, 3, 21), (7, 0, .istore_n 1, 1, 0), (8, 0, .iload_n 1, 1, 0), (9, 0, .ifCond .ge 14, 3, 23), (12, 0, .aload_n 0, 1, 0), (13, 0, .getfield 10, 3, 900), (16, 0, .aload_n 0, 1, 0), (17, 0, .getfield 19, 3, 901), (20, 0, .invokevirtual 176, 3, 8), (23, 0, .aload_n 0, 1, 0), (24, 0, .getfield 19, 3, 901), (27, 0, .invokevirtual 180, 3, 20), (30, 0, .iload_n 1, 1, 0), (31, 0, .ifCond .ge 7, 3, 38), (34, 0, .iconst 1, 1, 0), (35, 0, .goto 7, 3, 42), (38, 0, .bipush (-100), 2, 0), (40, 0, .iload_n 1, 1, 0), (41, 0, .isub, 1, 0), (42, 0, .ireturn, 1, 0)]
abbrev cX9_keeps : ByteArray := prog_1_method_9_code
def yX9_keeps : MethodName := ⟨RX9, "keeps", "(I)I"⟩
def cdX9_keeps : List Ent := [(0, 0, .aload_n 0, 1, 0), (1, 0, .iload_n 1, 1, 0), (2, 0, .invokevirtual 183, 3, 102), (5, 0, .ifCond .eq 25, 3, 30), (8, 0, .aload_n 0, 1, 0), (9, 0, .getfield 26, 3, 902), (12, 0, .aload_n 0, 1, 0), (13, 0, .getfield 10, 3, 900), (16, 0, .iload_n 1, 1, 0), (17, 0, .bipush 16, 2, 0), (19, 0, .idiv, 1, 0), (20, 0, .iload_n 1, 1, 0), (21, 0, .bipush 16, 2, 0), (23, 0, .irem, 1, 0), (24, 0, .invokevirtual 186, 3, 76), (27, 0, .goto 4, 3, 31), (30, 0, .iconst (-1), 1, 0), (31, 0, .ireturn, 1, 0)]
abbrev cX9_lean : ByteArray := prog_1_method_10_code
def yX9_lean : MethodName := ⟨RX9, "lean", "(II)I"⟩
def cdX9_lean : List Ent := [(0, 0, .aload_n 0, 1, 0), (1, 0, .getfield 26, 3, 902), (4, 0, .iload_n 1, 1, 0), (5, 0, .invokevirtual 88, 3, 65), (8, 0, .ifCond .eq 12, 3, 20), (11, 0, .iload_n 2, 1, 0), (12, 0, .ifCond .lt 8, 3, 20), (15, 0, .iload_n 2, 1, 0), (16, 0, .iconst 2, 1, 0), (17, 0, .if_icmp .le 6, 3, 23), (20, 0, .ldc 190, 2, 0), (22, 0, .ireturn, 1, 0), (23, 0, .aload_n 0, 1, 0), (24, 0, .getfield 26, 3, 902), (27, 0, .aload_n 0, 1, 0), (28, 0, .getfield 10, 3, 900), (31, 0, .iload_n 1, 1, 0), (32, 0, .aload_n 0, 1, 0), (33, 0, .getfield 36, 3, 904), (36, 0, .invokevirtual 191, 3, 77), (39, 0, .iload_n 2, 1, 0), (40, 0, .ifCond .ne 13, 3, 53), (43, 0, .aload_n 0, 1, 0), (44, 0, .getfield 36, 3, 904), (47, 0, .getfield 195, 3, 400), (50, 0, .goto 37, 3, 87), (53, 0, .iload_n 2, 1, 0), (54, 0, .iconst 1, 1, 0), (55, 0, .if_icmp .ne 13, 3, 68), (58, 0, .aload_n 0, 1, 0), (59, 0, .getfield 36, 3, 904), (62, 0, .getfield 198, 3, 401), (65, 0, .goto 22, 3, 87), (68, 0, .aload_n 0, 1, 0), (69, 0, .getfield 10, 3, 900), (72, 0, .aload_n 0, 1, 0), (73, 0, .getfield 36, 3, 904), (76, 0, .invokevirtual 201, 3, 7), (79, 0, .ifCond .eq 7, 3, 86), (82, 0, .iconst 1, 1, 0), (83, 0, .goto 4, 3, 87), (86, 0, .iconst 0, 1, 0), (87, 0, .ireturn, 1, 0)]
abbrev cX9_winter : ByteArray := prog_1_method_11_code
def yX9_winter : MethodName := ⟨RX9, "winter", "(III)I"⟩
def cdX9_winter : List Ent := [(0, 0, .aload_n 0, 1, 0), (1, 0, .iload_n 1, 1, 0), (2, 0, .invokevirtual 104, 3, 101), (5, 0, .astore 4, 2, 0), (7, 0, .aload 4, 2, 0), (9, 0, .ifnull 22, 3, 31), (12, 0, .iload_n 2, 1, 0), (13, 0, .ifCond .lt 18, 3, 31), (16, 0, .iload_n 2, 1, 0), (17, 0, .bipush 24, 2, 0), (19, 0, .if_icmp .gt 12, 3, 31), (22, 0, .iload_n 3, 1, 0), (23, 0, .ifCond .lt 8, 3, 31), (26, 0, .iload_n 3, 1, 0), (27, 0, .iconst 4, 1, 0), (28, 0, .if_icmp .le 5, 3, 33), (31, 0, .iconst (-1), 1, 0), (32, 0, .ireturn, 1, 0), (33, 0, .aload 4, 2, 0), (35, 0, .iconst 0, 1, 0), (36, 0, .invokevirtual 108, 3, 55), (39, 0, .istore 5, 2, 0), (41, 0, .iload 5, 2, 0), (43, 0, .ifCond .eq 6, 3, 49), (46, 0, .iload 5, 2, 0), (48, 0, .ireturn, 1, 0), (49, 0, .aload_n 0, 1, 0), (50, 0, .getfield 45, 3, 905), (53, 0, .aload_n 0, 1, 0), (54, 0, .getfield 26, 3, 902), (57, 0, .aload 4, 2, 0), (59, 0, .iload_n 2, 1, 0), (60, 0, .invokevirtual 205, 3, 61), (63, 0, .iload_n 3, 1, 0), (64, 0, .tableswitch 64 0 3 #[32, 40, 48, 56], 32, 0), (96, 0, .aload_n 0, 1, 0), (97, 0, .getfield 45, 3, 905), (100, 0, .getfield 209, 3, 701), (103, 0, .ireturn, 1, 0), (104, 0, .aload_n 0, 1, 0), (105, 0, .getfield 45, 3, 905), (108, 0, .getfield 212, 3, 702), (111, 0, .ireturn, 1, 0), (112, 0, .aload_n 0, 1, 0), (113, 0, .getfield 45, 3, 905), (116, 0, .getfield 215, 3, 703), (119, 0, .ireturn, 1, 0), (120, 0, .aload_n 0, 1, 0), (121, 0, .getfield 45, 3, 905), (124, 0, .getfield 218, 3, 704), (127, 0, .ireturn, 1, 0), (128, 0, .aload_n 0, 1, 0), (129, 0, .getfield 45, 3, 905), (132, 0, .getfield 221, 3, 705), (135, 0, .ireturn, 1, 0)]
abbrev cX9_leanThen : ByteArray := prog_1_method_12_code
def yX9_leanThen : MethodName := ⟨RX9, "leanThen", "(IIII)I"⟩
def cdX9_leanThen : List Ent := [(0, 0, .aload_n 0, 1, 0), (1, 0, .iload_n 1, 1, 0), (2, 0, .invokevirtual 104, 3, 101), (5, 0, .astore 5, 2, 0), (7, 0, .aload 5, 2, 0), (9, 0, .ifnull 35, 3, 44), (12, 0, .iload_n 2, 1, 0), (13, 0, .ifCond .lt 31, 3, 44), (16, 0, .iload_n 2, 1, 0), (17, 0, .bipush 24, 2, 0), (19, 0, .if_icmp .gt 25, 3, 44), (22, 0, .aload_n 0, 1, 0), (23, 0, .getfield 26, 3, 902), (26, 0, .iload_n 3, 1, 0), (27, 0, .invokevirtual 88, 3, 65), (30, 0, .ifCond .eq 14, 3, 44), (33, 0, .iload 4, 2, 0), (35, 0, .ifCond .lt 9, 3, 44), (38, 0, .iload 4, 2, 0), (40, 0, .iconst 1, 1, 0), (41, 0, .if_icmp .le 6, 3, 47), (44, 0, .ldc 190, 2, 0), (46, 0, .ireturn, 1, 0), (47, 0, .aload 5, 2, 0), (49, 0, .iconst 0, 1, 0), (50, 0, .invokevirtual 108, 3, 55), (53, 0, .ifCond .eq 6, 3, 59), (56, 0, .ldc 190, 2, 0), (58, 0, .ireturn, 1, 0), (59, 0, .aload_n 0, 1, 0), (60, 0, .getfield 45, 3, 905), (63, 0, .aload_n 0, 1, 0), (64, 0, .getfield 26, 3, 902), (67, 0, .aload 5, 2, 0), (69, 0, .iload_n 2, 1, 0), (70, 0, .invokevirtual 205, 3, 61), (73, 0, .aload_n 0, 1, 0), (74, 0, .getfield 45, 3, 905), (77, 0, .getfield 224, 3, 700), (80, 0, .aload_n 0, 1, 0), (81, 0, .getfield 10, 3, 900), (84, 0, .iload_n 3, 1, 0), (85, 0, .aload_n 0, 1, 0), (86, 0, .getfield 36, 3, 904), (89, 0, .invokevirtual 191, 3, 77), (92, 0, .iload 4, 2, 0), (94, 0, .ifCond .ne 13, 3, 107), (97, 0, .aload_n 0, 1, 0), (98, 0, .getfield 36, 3, 904), (101, 0, .getfield 195, 3, 400), (104, 0, .goto 10, 3, 114), (107, 0, .aload_n 0, 1, 0), (108, 0, .getfield 36, 3, 904), (111, 0, .getfield 198, 3, 401), (114, 0, .ireturn, 1, 0)]
abbrev cX9_order : ByteArray := prog_1_method_13_code
def yX9_order : MethodName := ⟨RX9, "order", "(III)I"⟩
def cdX9_order : List Ent := [(0, 0, .aload_n 0, 1, 0), (1, 0, .iload_n 1, 1, 0), (2, 0, .invokevirtual 104, 3, 101), (5, 0, .astore 4, 2, 0), (7, 0, .aload 4, 2, 0), (9, 0, .ifnull 19, 3, 28), (12, 0, .aload_n 0, 1, 0), (13, 0, .getfield 26, 3, 902), (16, 0, .iload_n 2, 1, 0), (17, 0, .invokevirtual 88, 3, 65), (20, 0, .ifCond .eq 8, 3, 28), (23, 0, .iload_n 3, 1, 0), (24, 0, .iconst (-1), 1, 0), (25, 0, .if_icmp .ge 5, 3, 30), (28, 0, .iconst (-1), 1, 0), (29, 0, .ireturn, 1, 0), (30, 0, .aload 4, 2, 0), (32, 0, .iconst 1, 1, 0), (33, 0, .invokevirtual 108, 3, 55), (36, 0, .istore 5, 2, 0), (38, 0, .iload 5, 2, 0), (40, 0, .ifCond .eq 6, 3, 46), (43, 0, .iload 5, 2, 0), (45, 0, .ireturn, 1, 0), (46, 0, .aload 4, 2, 0), (48, 0, .invokestatic 227, 3, 105), (51, 0, .istore 6, 2, 0), (53, 0, .iload 6, 2, 0), (55, 0, .bipush 7, 2, 0), (57, 0, .if_icmp .le 6, 3, 63), (60, 0, .bipush (-5), 2, 0), (62, 0, .ireturn, 1, 0), (63, 0, .aload_n 0, 1, 0), (64, 0, .getfield 26, 3, 902), (67, 0, .iload_n 2, 1, 0), (68, 0, .invokevirtual 96, 3, 66), (71, 0, .iload 6, 2, 0), (73, 0, .iadd, 1, 0), (74, 0, .bipush 12, 2, 0), (76, 0, .if_icmp .gt 9, 3, 85), (79, 0, .iload_n 3, 1, 0), (80, 0, .iload 6, 2, 0), (82, 0, .if_icmp .lt 6, 3, 88), (85, 0, .bipush (-2), 2, 0), (87, 0, .ireturn, 1, 0), (88, 0, .aload_n 0, 1, 0), (89, 0, .getfield 52, 3, 906), (92, 0, .aload_n 0, 1, 0), (93, 0, .getfield 26, 3, 902), (96, 0, .iload_n 2, 1, 0), (97, 0, .iconst 0, 1, 0), (98, 0, .invokevirtual 231, 3, 35), (101, 0, .iconst 0, 1, 0), (102, 0, .istore 7, 2, 0), (104, 1, .iload 7, 2, 0), (106, 0, .iload 6, 2, 0), (108, 0, .if_icmp .ge 24, 3, 132), (111, 0, .aload_n 0, 1, 0), (112, 0, .getfield 52, 3, 906), (115, 0, .aload 4, 2, 0), (117, 0, .iload 7, 2, 0), (119, 0, .invokevirtual 115, 3, 57), (122, 0, .l2i, 1, 0), (123, 0, .invokevirtual 235, 3, 36), (126, 0, .iinc 7 1, 3, 0), (129, 0, .goto (-25), 3, 104), (132, 0, .aload_n 0, 1, 0), (133, 0, .getfield 52, 3, 906), (136, 0, .iload 6, 2, 0), (138, 0, .invokevirtual 239, 3, 41), (141, 0, .ifCond .ne 6, 3, 147), (144, 0, .bipush (-2), 2, 0), (146, 0, .ireturn, 1, 0), (147, 0, .iload_n 3, 1, 0), (148, 0, .ifCond .ge 13, 3, 161), (151, 0, .aload_n 0, 1, 0), (152, 0, .getfield 52, 3, 906), (155, 0, .getfield 242, 3, 500), (158, 0, .goto 11, 3, 169), (161, 0, .aload_n 0, 1, 0), (162, 0, .getfield 52, 3, 906), (165, 0, .iload_n 3, 1, 0), (166, 0, .invokevirtual 245, 3, 37), (169, 0, .ireturn, 1, 0)]
abbrev cX9_letOut : ByteArray := prog_1_method_14_code
def yX9_letOut : MethodName := ⟨RX9, "letOut", "(III)I"⟩
def cdX9_letOut : List Ent := [(0, 0, .aload_n 0, 1, 0), (1, 0, .getfield 26, 3, 902), (4, 0, .iload_n 1, 1, 0), (5, 0, .invokevirtual 88, 3, 65), (8, 0, .ifCond .eq 19, 3, 27), (11, 0, .iload_n 2, 1, 0), (12, 0, .iconst 1, 1, 0), (13, 0, .if_icmp .lt 14, 3, 27), (16, 0, .iload_n 2, 1, 0), (17, 0, .bipush 7, 2, 0), (19, 0, .if_icmp .gt 8, 3, 27), (22, 0, .iload_n 3, 1, 0), (23, 0, .iconst (-1), 1, 0), (24, 0, .if_icmp .ge 5, 3, 29), (27, 0, .iconst (-1), 1, 0), (28, 0, .ireturn, 1, 0), (29, 0, .aload_n 0, 1, 0), (30, 0, .getfield 52, 3, 906), (33, 0, .aload_n 0, 1, 0), (34, 0, .getfield 26, 3, 902), (37, 0, .iload_n 1, 1, 0), (38, 0, .iconst 0, 1, 0), (39, 0, .invokevirtual 231, 3, 35), (42, 0, .aload_n 0, 1, 0), (43, 0, .getfield 52, 3, 906), (46, 0, .iload_n 2, 1, 0), (47, 0, .invokevirtual 248, 3, 45), (50, 0, .ifCond .eq 14, 3, 64), (53, 0, .iload_n 3, 1, 0), (54, 0, .aload_n 0, 1, 0), (55, 0, .getfield 52, 3, 906), (58, 0, .getfield 242, 3, 500), (61, 0, .if_icmp .lt 6, 3, 67), (64, 0, .bipush (-2), 2, 0), (66, 0, .ireturn, 1, 0), (67, 0, .iload_n 3, 1, 0), (68, 0, .ifCond .ge 13, 3, 81), (71, 0, .aload_n 0, 1, 0), (72, 0, .getfield 52, 3, 906), (75, 0, .getfield 242, 3, 500), (78, 0, .goto 11, 3, 89), (81, 0, .aload_n 0, 1, 0), (82, 0, .getfield 52, 3, 906), (85, 0, .iload_n 3, 1, 0), (86, 0, .invokevirtual 245, 3, 37), (89, 0, .ireturn, 1, 0)]
abbrev cX9_worth : ByteArray := prog_1_method_15_code
def yX9_worth : MethodName := ⟨RX9, "worth", "(III)I"⟩
def cdX9_worth : List Ent := [(0, 0, .aload_n 0, 1, 0), (1, 0, .getfield 26, 3, 902), (4, 0, .iload_n 1, 1, 0), (5, 0, .invokevirtual 88, 3, 65), (8, 0, .ifCond .eq 22, 3, 30), (11, 0, .iload_n 2, 1, 0), (12, 0, .ifCond .lt 18, 3, 30), (15, 0, .iload_n 2, 1, 0), (16, 0, .iconst 4, 1, 0), (17, 0, .if_icmp .gt 13, 3, 30), (20, 0, .iload_n 3, 1, 0), (21, 0, .iconst (-1), 1, 0), (22, 0, .if_icmp .lt 8, 3, 30), (25, 0, .iload_n 3, 1, 0), (26, 0, .iload_n 2, 1, 0), (27, 0, .if_icmp .lt 5, 3, 32), (30, 0, .iconst (-1), 1, 0), (31, 0, .ireturn, 1, 0), (32, 0, .aload_n 0, 1, 0), (33, 0, .getfield 26, 3, 902), (36, 0, .iload_n 1, 1, 0), (37, 0, .invokevirtual 96, 3, 66), (40, 0, .iload_n 2, 1, 0), (41, 0, .if_icmp .ge 6, 3, 47), (44, 0, .bipush (-2), 2, 0), (46, 0, .ireturn, 1, 0), (47, 0, .aload_n 0, 1, 0), (48, 0, .getfield 52, 3, 906), (51, 0, .aload_n 0, 1, 0), (52, 0, .getfield 26, 3, 902), (55, 0, .iload_n 1, 1, 0), (56, 0, .iconst 1, 1, 0), (57, 0, .invokevirtual 231, 3, 35), (60, 0, .aload_n 0, 1, 0), (61, 0, .getfield 52, 3, 906), (64, 0, .iload_n 2, 1, 0), (65, 0, .invokevirtual 251, 3, 49), (68, 0, .iload_n 3, 1, 0), (69, 0, .ifCond .ge 13, 3, 82), (72, 0, .aload_n 0, 1, 0), (73, 0, .getfield 52, 3, 906), (76, 0, .getfield 242, 3, 500), (79, 0, .goto 11, 3, 90), (82, 0, .aload_n 0, 1, 0), (83, 0, .getfield 52, 3, 906), (86, 0, .iload_n 3, 1, 0), (87, 0, .invokevirtual 245, 3, 37), (90, 0, .ireturn, 1, 0)]
abbrev cX9_likely : ByteArray := prog_1_method_16_code
def yX9_likely : MethodName := ⟨RX9, "likely", "(III)J"⟩
def cdX9_likely : List Ent := [(0, 0, .iload_n 1, 1, 0), (1, 0, .bipush 10, 2, 0), (3, 0, .idiv, 1, 0), (4, 0, .istore 4, 2, 0), (6, 0, .iload_n 1, 1, 0), (7, 0, .bipush 10, 2, 0), (9, 0, .irem, 1, 0), (10, 0, .istore 5, 2, 0), (12, 0, .iload_n 1, 1, 0), (13, 0, .ifCond .lt 47, 3, 60), (16, 0, .aload_n 0, 1, 0), (17, 0, .getfield 26, 3, 902), (20, 0, .iload 4, 2, 0), (22, 0, .invokevirtual 88, 3, 65), (25, 0, .ifCond .eq 35, 3, 60), (28, 0, .iload 5, 2, 0), (30, 0, .iconst 1, 1, 0), (31, 0, .if_icmp .lt 29, 3, 60), (34, 0, .iload 5, 2, 0), (36, 0, .bipush 7, 2, 0), (38, 0, .if_icmp .gt 22, 3, 60), (41, 0, .iload_n 2, 1, 0), (42, 0, .ifCond .lt 18, 3, 60), (45, 0, .iload_n 2, 1, 0), (46, 0, .bipush 12, 2, 0), (48, 0, .if_icmp .gt 12, 3, 60), (51, 0, .iload_n 3, 1, 0), (52, 0, .ifCond .lt 8, 3, 60), (55, 0, .iload_n 3, 1, 0), (56, 0, .iconst 1, 1, 0), (57, 0, .if_icmp .le 7, 3, 64), (60, 0, .ldc2_w 254, 3, 2), (63, 0, .lreturn, 1, 0), (64, 0, .aload_n 0, 1, 0), (65, 0, .getfield 26, 3, 902), (68, 0, .iload 4, 2, 0), (70, 0, .invokevirtual 96, 3, 66), (73, 0, .istore 6, 2, 0), (75, 0, .iload 6, 2, 0), (77, 0, .istore 7, 2, 0), (79, 0, .iconst 0, 1, 0), (80, 0, .istore 8, 2, 0), (82, 1, .iload 8, 2, 0), (84, 0, .iload 6, 2, 0), (86, 0, .if_icmp .ge 29, 3, 115), (89, 0, .aload_n 0, 1, 0), (90, 0, .getfield 26, 3, 902), (93, 0, .iload 4, 2, 0), (95, 0, .iload 8, 2, 0), (97, 0, .iconst 2, 1, 0), (98, 0, .invokevirtual 150, 3, 68), (101, 0, .iload 5, 2, 0), (103, 0, .if_icmp .ne 6, 3, 109), (106, 0, .iinc 7 (-1), 3, 0), (109, 0, .iinc 8 1, 3, 0), (112, 0, .goto (-30), 3, 82), (115, 0, .iload_n 2, 1, 0), (116, 0, .iload 6, 2, 0), (118, 0, .invokestatic 256, 3, 1002), (121, 0, .istore 8, 2, 0), (123, 0, .iload 6, 2, 0), (125, 0, .iload 8, 2, 0), (127, 0, .invokestatic 261, 3, 110), (130, 0, .lstore 9, 2, 0), (132, 0, .lload 9, 2, 0), (134, 0, .iload 7, 2, 0), (136, 0, .iload 8, 2, 0), (138, 0, .invokestatic 261, 3, 110), (141, 0, .lsub, 1, 0), (142, 0, .lload 9, 2, 0), (144, 0, .iload_n 3, 1, 0), (145, 0, .invokestatic 265, 3, 111), (148, 0, .lreturn, 1, 0)]
abbrev cX9_byTurns : ByteArray := prog_1_method_22_code
def yX9_byTurns : MethodName := ⟨RX9, "byTurns", "(III)I"⟩
def cdX9_byTurns : List Ent := [(0, 0, .aload_n 0, 1, 0), (1, 0, .getfield 26, 3, 902), (4, 0, .iload_n 1, 1, 0), (5, 0, .invokevirtual 88, 3, 65), (8, 0, .ifCond .eq 22, 3, 30), (11, 0, .iload_n 2, 1, 0), (12, 0, .iconst 1, 1, 0), (13, 0, .if_icmp .lt 17, 3, 30), (16, 0, .iload_n 2, 1, 0), (17, 0, .iconst 4, 1, 0), (18, 0, .if_icmp .gt 12, 3, 30), (21, 0, .iload_n 3, 1, 0), (22, 0, .ifCond .lt 8, 3, 30), (25, 0, .iload_n 3, 1, 0), (26, 0, .iconst 1, 1, 0), (27, 0, .if_icmp .le 5, 3, 32), (30, 0, .iconst (-1), 1, 0), (31, 0, .ireturn, 1, 0), (32, 0, .aload_n 0, 1, 0), (33, 0, .getfield 26, 3, 902), (36, 0, .iload_n 1, 1, 0), (37, 0, .invokevirtual 96, 3, 66), (40, 0, .iload_n 2, 1, 0), (41, 0, .iadd, 1, 0), (42, 0, .bipush 12, 2, 0), (44, 0, .if_icmp .le 6, 3, 50), (47, 0, .bipush (-2), 2, 0), (49, 0, .ireturn, 1, 0), (50, 0, .aload_n 0, 1, 0), (51, 0, .getfield 52, 3, 906), (54, 0, .aload_n 0, 1, 0), (55, 0, .getfield 26, 3, 902), (58, 0, .iload_n 1, 1, 0), (59, 0, .iconst 0, 1, 0), (60, 0, .invokevirtual 231, 3, 35), (63, 0, .aload_n 0, 1, 0), (64, 0, .getfield 52, 3, 906), (67, 0, .iload_n 2, 1, 0), (68, 0, .invokevirtual 287, 3, 51), (71, 0, .iload_n 3, 1, 0), (72, 0, .ifCond .ne 13, 3, 85), (75, 0, .aload_n 0, 1, 0), (76, 0, .getfield 52, 3, 906), (79, 0, .getfield 242, 3, 500), (82, 0, .goto 10, 3, 92), (85, 0, .aload_n 0, 1, 0), (86, 0, .getfield 52, 3, 906), (89, 0, .getfield 290, 3, 501), (92, 0, .ireturn, 1, 0)]
abbrev cX9_cut : ByteArray := prog_1_method_24_code
def yX9_cut : MethodName := ⟨RX9, "cut", "(I)I"⟩
def cdX9_cut : List Ent := [(0, 0, .aload_n 0, 1, 0), (1, 0, .iload_n 1, 1, 0), (2, 0, .invokevirtual 183, 3, 102), (5, 0, .ifCond .ne 5, 3, 10), (8, 0, .iconst (-1), 1, 0), (9, 0, .ireturn, 1, 0), (10, 0, .aload_n 0, 1, 0), (11, 0, .getfield 26, 3, 902), (14, 0, .aload_n 0, 1, 0), (15, 0, .getfield 10, 3, 900), (18, 0, .iload_n 1, 1, 0), (19, 0, .bipush 16, 2, 0), (21, 0, .idiv, 1, 0), (22, 0, .iload_n 1, 1, 0), (23, 0, .bipush 16, 2, 0), (25, 0, .irem, 1, 0), (26, 0, .invokevirtual 186, 3, 76), (29, 0, .istore_n 2, 1, 0), (30, 0, .aload_n 0, 1, 0), (31, 0, .getfield 76, 3, 910), (34, 0, .iconst 1, 1, 0), (35, 0, .dup2, 1, 0), (36, 0, .iaload, 1, 0), (37, 0, .iconst 1, 1, 0), (38, 0, .iadd, 1, 0), (39, 0, .iastore, 1, 0), (40, 0, .aload_n 0, 1, 0), (41, 0, .getfield 76, 3, 910), (44, 0, .iconst 2, 1, 0), (45, 0, .dup2, 1, 0), (46, 0, .iaload, 1, 0), (47, 0, .iload_n 2, 1, 0), (48, 0, .iadd, 1, 0), (49, 0, .iastore, 1, 0), (50, 0, .iload_n 2, 1, 0), (51, 0, .aload_n 0, 1, 0), (52, 0, .getfield 10, 3, 900), (55, 0, .aload_n 0, 1, 0), (56, 0, .getfield 26, 3, 902), (59, 0, .iload_n 1, 1, 0), (60, 0, .bipush 16, 2, 0), (62, 0, .idiv, 1, 0), (63, 0, .iload_n 1, 1, 0), (64, 0, .bipush 16, 2, 0), (66, 0, .irem, 1, 0), (67, 0, .iconst 0, 1, 0), (68, 0, .invokevirtual 150, 3, 68), (71, 0, .invokevirtual 154, 3, 5), (74, 0, .if_icmp .lt 13, 3, 87), (77, 0, .aload_n 0, 1, 0), (78, 0, .getfield 76, 3, 910), (81, 0, .iconst 3, 1, 0), (82, 0, .dup2, 1, 0), (83, 0, .iaload, 1, 0), (84, 0, .iconst 1, 1, 0), (85, 0, .iadd, 1, 0), (86, 0, .iastore, 1, 0), (87, 0, .aload_n 0, 1, 0), (88, 0, .getfield 26, 3, 902), (91, 0, .iload_n 1, 1, 0), (92, 0, .bipush 16, 2, 0), (94, 0, .idiv, 1, 0), (95, 0, .iload_n 1, 1, 0), (96, 0, .bipush 16, 2, 0), (98, 0, .irem, 1, 0), (99, 0, .invokevirtual 297, 3, 72), (102, 0, .iload_n 2, 1, 0), (103, 0, .ireturn, 1, 0)]
abbrev cX9_day : ByteArray := prog_1_method_25_code
def yX9_day : MethodName := ⟨RX9, "day", "()I"⟩
def cdX9_day : List Ent := [(0, 0, .aload_n 0, 1, 0), (1, 0, .getfield 26, 3, 902), (4, 0, .invokevirtual 301, 3, 75), (7, 0, .aload_n 0, 1, 0), (8, 0, .bipush 99, 2, 0), (10, 0, .aload_n 0, 1, 0), (11, 0, .getfield 163, 3, 913), (14, 0, .iconst 1, 1, 0), (15, 0, .iadd, 1, 0), (16, 0, .invokestatic 256, 3, 1002), (19, 0, .putfield 163, 3, 913), (22, 0, .aload_n 0, 1, 0), (23, 0, .getfield 76, 3, 910), (26, 0, .iconst 4, 1, 0), (27, 0, .dup2, 1, 0), (28, 0, .iaload, 1, 0), (29, 0, .iconst 1, 1, 0), (30, 0, .iadd, 1, 0), (31, 0, .iastore, 1, 0), (32, 0, .aload_n 0, 1, 0), (33, 0, .getfield 163, 3, 913), (36, 0, .ireturn, 1, 0)]
abbrev cX9_led : ByteArray := prog_1_method_26_code
def yX9_led : MethodName := ⟨RX9, "led", "(I)I"⟩
def cdX9_led : List Ent := [(0, 0, .iload_n 1, 1, 0), (1, 0, .ifCond .lt 21, 3, 22), (4, 0, .iload_n 1, 1, 0), (5, 0, .aload_n 0, 1, 0), (6, 0, .getfield 76, 3, 910), (9, 0, .arraylength, 1, 0), (10, 0, .if_icmp .ge 12, 3, 22), (13, 0, .aload_n 0, 1, 0), (14, 0, .getfield 76, 3, 910), (17, 0, .iload_n 1, 1, 0), (18, 0, .iaload, 1, 0), (19, 0, .goto 4, 3, 23), (22, 0, .iconst (-1), 1, 0), (23, 0, .ireturn, 1, 0)]
abbrev cX9_image : ByteArray := prog_1_method_27_code
def yX9_image : MethodName := ⟨RX9, "image", "()I"⟩
def cdX9_image : List Ent := [(0, 0, .aload_n 0, 1, 0), (1, 0, .getfield 30, 3, 903), (4, 0, .aload_n 0, 1, 0), (5, 0, .getfield 26, 3, 902), (8, 0, .invokevirtual 304, 3, 64), (11, 0, .aload_n 0, 1, 0), (12, 0, .getfield 76, 3, 910), (15, 0, .aload_n 0, 1, 0), (16, 0, .getfield 80, 3, 911), (19, 0, .invokestatic 307, 3, 109), (22, 0, .aload_n 0, 1, 0), (23, 0, .aload_n 0, 1, 0), (24, 0, .getfield 163, 3, 913), (27, 0, .putfield 311, 3, 914), (30, 0, .aload_n 0, 1, 0), (31, 0, .iconst 1, 1, 0), (32, 0, .putfield 314, 3, 912), (35, 0, .aload_n 0, 1, 0), (36, 0, .getfield 163, 3, 913), (39, 0, .ireturn, 1, 0)]
abbrev cX9_back : ByteArray := prog_1_method_28_code
def yX9_back : MethodName := ⟨RX9, "back", "()I"⟩
def cdX9_back : List Ent := [(0, 0, .aload_n 0, 1, 0), (1, 0, .getfield 314, 3, 912), (4, 0, .ifCond .ne 6, 3, 10), (7, 0, .bipush (-5), 2, 0), (9, 0, .ireturn, 1, 0), (10, 0, .aload_n 0, 1, 0), (11, 0, .getfield 26, 3, 902), (14, 0, .getfield 84, 3, 800), (17, 0, .istore_n 1, 1, 0), (18, 0, .aload_n 0, 1, 0), (19, 0, .getfield 26, 3, 902), (22, 0, .aload_n 0, 1, 0), (23, 0, .getfield 30, 3, 903), (26, 0, .invokevirtual 304, 3, 64), (29, 0, .aload_n 0, 1, 0), (30, 0, .getfield 26, 3, 902), (33, 0, .iload_n 1, 1, 0), (34, 0, .putfield 84, 3, 800), (37, 0, .aload_n 0, 1, 0), (38, 0, .aload_n 0, 1, 0), (39, 0, .getfield 26, 3, 902), (42, 0, .aload_n 0, 1, 0), (43, 0, .getfield 318, 3, 915), (46, 0, .invokevirtual 321, 3, 74), (49, 0, .putfield 318, 3, 915), (52, 0, .aload_n 0, 1, 0), (53, 0, .getfield 80, 3, 911), (56, 0, .aload_n 0, 1, 0), (57, 0, .getfield 76, 3, 910), (60, 0, .invokestatic 307, 3, 109), (63, 0, .aload_n 0, 1, 0), (64, 0, .aload_n 0, 1, 0), (65, 0, .getfield 311, 3, 914), (68, 0, .putfield 163, 3, 913), (71, 0, .aload_n 0, 1, 0), (72, 0, .getfield 163, 3, 913), (75, 0, .ireturn, 1, 0)]
abbrev cX9_row : ByteArray := prog_1_method_35_code
def yX9_row : MethodName := ⟨RX9, "row", "(III)I"⟩
def cdX9_row : List Ent := [(0, 0, .aload_n 0, 1, 0), (1, 0, .iload_n 1, 1, 0), (2, 0, .invokevirtual 104, 3, 101), (5, 0, .astore 4, 2, 0), (7, 0, .aload 4, 2, 0), (9, 0, .ifnull 18, 3, 27), (12, 0, .iload_n 2, 1, 0), (13, 0, .ifCond .lt 14, 3, 27), (16, 0, .iload_n 2, 1, 0), (17, 0, .iconst 4, 1, 0), (18, 0, .if_icmp .gt 9, 3, 27), (21, 0, .iload_n 3, 1, 0), (22, 0, .bipush 60, 2, 0), (24, 0, .if_icmp .le 5, 3, 29), (27, 0, .iconst (-1), 1, 0), (28, 0, .ireturn, 1, 0), (29, 0, .iload_n 3, 1, 0), (30, 0, .ifCond .ge 6, 3, 36), (33, 0, .bipush (-14), 2, 0), (35, 0, .ireturn, 1, 0), (36, 0, .aload 4, 2, 0), (38, 0, .iload_n 2, 1, 0), (39, 0, .iload_n 3, 1, 0), (40, 0, .invokevirtual 353, 3, 54), (43, 0, .iconst 1, 1, 0), (44, 0, .ireturn, 1, 0)]
abbrev cX9_put : ByteArray := prog_1_method_36_code
def yX9_put : MethodName := ⟨RX9, "put", "(IIJ)I"⟩
def cdX9_put : List Ent := [(0, 0, .aload_n 0, 1, 0), (1, 0, .iload_n 1, 1, 0), (2, 0, .invokevirtual 104, 3, 101), (5, 0, .astore 5, 2, 0), (7, 0, .aload 5, 2, 0), (9, 0, .ifnonnull 5, 3, 14), (12, 0, .iconst (-1), 1, 0), (13, 0, .ireturn, 1, 0), (14, 0, .aload 5, 2, 0), (16, 0, .iload_n 2, 1, 0), (17, 0, .invokevirtual 356, 3, 56), (20, 0, .istore 6, 2, 0), (22, 0, .iload 6, 2, 0), (24, 0, .ifCond .eq 6, 3, 30), (27, 0, .iload 6, 2, 0), (29, 0, .ireturn, 1, 0), (30, 0, .aload 5, 2, 0), (32, 0, .iload_n 2, 1, 0), (33, 0, .lload_n 3, 1, 0), (34, 0, .invokevirtual 359, 3, 58), (37, 0, .iconst 1, 1, 0), (38, 0, .ireturn, 1, 0)]
abbrev cX9_count : ByteArray := prog_1_method_40_code
def yX9_count : MethodName := ⟨RX9, "count", "(I)I"⟩
def cdX9_count : List Ent := [(0, 0, .iload_n 1, 1, 0), (1, 0, .tableswitch 87 0 5 #[39, 47, 55, 63, 71, 79], 39, 0), (40, 0, .aload_n 0, 1, 0), (41, 0, .getfield 26, 3, 902), (44, 0, .getfield 84, 3, 800), (47, 0, .ireturn, 1, 0), (48, 0, .aload_n 0, 1, 0), (49, 0, .getfield 26, 3, 902), (52, 0, .invokevirtual 386, 3, 70), (55, 0, .ireturn, 1, 0), (56, 0, .aload_n 0, 1, 0), (57, 0, .getfield 19, 3, 901), (60, 0, .invokevirtual 169, 3, 16), (63, 0, .ireturn, 1, 0), (64, 0, .aload_n 0, 1, 0), (65, 0, .getfield 59, 3, 907), (68, 0, .invokevirtual 324, 3, 2), (71, 0, .ireturn, 1, 0), (72, 0, .aload_n 0, 1, 0), (73, 0, .getfield 66, 3, 908), (76, 0, .invokevirtual 347, 3, 0), (79, 0, .ireturn, 1, 0), (80, 0, .aload_n 0, 1, 0), (81, 0, .getfield 66, 3, 908), (84, 0, .invokevirtual 389, 3, 1), (87, 0, .ireturn, 1, 0), (88, 0, .iconst (-1), 1, 0), (89, 0, .ireturn, 1, 0)]
abbrev cX9_shelfAt : ByteArray := prog_1_method_41_code
def yX9_shelfAt : MethodName := ⟨RX9, "shelfAt", "(I)LHayRemembers$Shelf;"⟩
def cdX9_shelfAt : List Ent := [(0, 0, .iload_n 1, 1, 0), (1, 0, .ifCond .lt 21, 3, 22), (4, 0, .iload_n 1, 1, 0), (5, 0, .aload_n 0, 1, 0), (6, 0, .getfield 72, 3, 909), (9, 0, .arraylength, 1, 0), (10, 0, .if_icmp .ge 12, 3, 22), (13, 0, .aload_n 0, 1, 0), (14, 0, .getfield 72, 3, 909), (17, 0, .iload_n 1, 1, 0), (18, 0, .aaload, 1, 0), (19, 0, .goto 4, 3, 23), (22, 0, .aconst_null, 1, 0), (23, 0, .areturn, 1, 0)]
abbrev cX9_hasLayerAt : ByteArray := prog_1_method_42_code
def yX9_hasLayerAt : MethodName := ⟨RX9, "hasLayerAt", "(I)Z"⟩
def cdX9_hasLayerAt : List Ent := [(0, 0, .iload_n 1, 1, 0), (1, 0, .ifCond .lt 25, 3, 26), (4, 0, .aload_n 0, 1, 0), (5, 0, .getfield 26, 3, 902), (8, 0, .iload_n 1, 1, 0), (9, 0, .bipush 16, 2, 0), (11, 0, .idiv, 1, 0), (12, 0, .iload_n 1, 1, 0), (13, 0, .bipush 16, 2, 0), (15, 0, .irem, 1, 0), (16, 0, .invokevirtual 147, 3, 67), (19, 0, .ifCond .eq 7, 3, 26), (22, 0, .iconst 1, 1, 0), (23, 0, .goto 4, 3, 27), (26, 0, .iconst 0, 1, 0), (27, 0, .ireturn, 1, 0)]
abbrev cX9_isHour : ByteArray := prog_1_method_43_code
def yX9_isHour : MethodName := ⟨RX9, "isHour", "(J)Z"⟩
def cdX9_isHour : List Ent := [(0, 0, .lload_n 0, 1, 0), (1, 0, .ldc2_w 123, 3, 0), (4, 0, .lcmp, 1, 0), (5, 0, .ifCond .lt 43, 3, 48), (8, 0, .lload_n 0, 1, 0), (9, 0, .ldc2_w 392, 3, 3), (12, 0, .lcmp, 1, 0), (13, 0, .ifCond .gt 35, 3, 48), (16, 0, .lload_n 0, 1, 0), (17, 0, .ldc2_w 125, 3, 1), (20, 0, .ldiv, 1, 0), (21, 0, .ldc2_w 125, 3, 1), (24, 0, .lrem, 1, 0), (25, 0, .ldc2_w 394, 3, 4), (28, 0, .lcmp, 1, 0), (29, 0, .ifCond .gt 19, 3, 48), (32, 0, .lload_n 0, 1, 0), (33, 0, .ldc2_w 125, 3, 1), (36, 0, .lrem, 1, 0), (37, 0, .ldc2_w 394, 3, 4), (40, 0, .lcmp, 1, 0), (41, 0, .ifCond .gt 7, 3, 48), (44, 0, .iconst 1, 1, 0), (45, 0, .goto 4, 3, 49), (48, 0, .iconst 0, 1, 0), (49, 0, .ireturn, 1, 0)]
abbrev cX9_laid : ByteArray := prog_1_method_45_code
def yX9_laid : MethodName := ⟨RX9, "laid", "(II)I"⟩
def cdX9_laid : List Ent := [(0, 0, .aload_n 0, 1, 0), (1, 0, .dup, 1, 0), (2, 0, .getfield 318, 3, 915), (5, 0, .iconst 1, 1, 0), (6, 0, .iadd, 1, 0), (7, 0, .putfield 318, 3, 915), (10, 0, .aload_n 0, 1, 0), (11, 0, .getfield 76, 3, 910), (14, 0, .iconst 0, 1, 0), (15, 0, .dup2, 1, 0), (16, 0, .iaload, 1, 0), (17, 0, .iconst 1, 1, 0), (18, 0, .iadd, 1, 0), (19, 0, .iastore, 1, 0), (20, 0, .aload_n 0, 1, 0), (21, 0, .getfield 26, 3, 902), (24, 0, .iload_n 1, 1, 0), (25, 0, .iload_n 2, 1, 0), (26, 0, .aload_n 0, 1, 0), (27, 0, .getfield 318, 3, 915), (30, 0, .invokevirtual 398, 3, 71), (33, 0, .ireturn, 1, 0)]
abbrev cX9_hoursOn : ByteArray := prog_1_method_46_code
def yX9_hoursOn : MethodName := ⟨RX9, "hoursOn", "(LHayRemembers$Shelf;)I"⟩
def cdX9_hoursOn : List Ent := [(0, 0, .iconst 0, 1, 0), (1, 0, .istore_n 1, 1, 0), (2, 1, .iload_n 1, 1, 0), (3, 0, .bipush 12, 2, 0), (5, 0, .if_icmp .ge 28, 3, 33), (8, 0, .iload_n 1, 1, 0), (9, 0, .aload_n 0, 1, 0), (10, 0, .invokevirtual 269, 3, 53), (13, 0, .if_icmp .ge 20, 3, 33), (16, 0, .aload_n 0, 1, 0), (17, 0, .iload_n 1, 1, 0), (18, 0, .invokevirtual 115, 3, 57), (21, 0, .invokestatic 92, 3, 103), (24, 0, .ifCond .eq 9, 3, 33), (27, 0, .iinc 1 1, 3, 0), (30, 0, .goto (-28), 3, 2), (33, 0, .iload_n 1, 1, 0), (34, 0, .ireturn, 1, 0)]
abbrev cX9_leastOf : ByteArray := prog_1_method_47_code
def yX9_leastOf : MethodName := ⟨RX9, "leastOf", "(I)I"⟩
def cdX9_leastOf : List Ent := [(0, 0, .iload_n 0, 1, 0), (1, 0, .iconst 1, 1, 0), (2, 0, .if_icmp .eq 9, 3, 11), (5, 0, .iload_n 0, 1, 0), (6, 0, .bipush 7, 2, 0), (8, 0, .if_icmp .ne 7, 3, 15), (11, 0, .iconst 1, 1, 0), (12, 0, .goto 4, 3, 16), (15, 0, .iconst 0, 1, 0), (16, 0, .ireturn, 1, 0)]
abbrev cX9_mostOf : ByteArray := prog_1_method_48_code
def yX9_mostOf : MethodName := ⟨RX9, "mostOf", "(I)I"⟩
def cdX9_mostOf : List Ent := [(0, 0, .iload_n 0, 1, 0), (1, 0, .tableswitch 53 0 7 #[47, 50, 47, 53, 50, 53, 53, 50], 47, 0), (48, 0, .bipush 7, 2, 0), (50, 0, .ireturn, 1, 0), (51, 0, .bipush 9, 2, 0), (53, 0, .ireturn, 1, 0), (54, 0, .bipush 99, 2, 0), (56, 0, .ireturn, 1, 0)]
abbrev cX9_tell : ByteArray := prog_1_method_49_code
def yX9_tell : MethodName := ⟨RX9, "tell", "(III)V"⟩
def cdX9_tell : List Ent := [(0, 0, .iload_n 1, 1, 0), (1, 0, .iconst 3, 1, 0), (2, 0, .if_icmp .gt 16, 3, 18), (5, 0, .aload_n 0, 1, 0), (6, 0, .getfield 26, 3, 902), (9, 0, .iload_n 2, 1, 0), (10, 0, .iload_n 1, 1, 0), (11, 0, .iload_n 3, 1, 0), (12, 0, .invokevirtual 401, 3, 73), (15, 0, .goto 58, 3, 73), (18, 0, .iload_n 1, 1, 0), (19, 0, .iconst 4, 1, 0), (20, 0, .if_icmp .ne 14, 3, 34), (23, 0, .aload_n 0, 1, 0), (24, 0, .getfield 10, 3, 900), (27, 0, .iload_n 3, 1, 0), (28, 0, .putfield 157, 3, 200), (31, 0, .goto 42, 3, 73), (34, 0, .iload_n 1, 1, 0), (35, 0, .iconst 5, 1, 0), (36, 0, .if_icmp .ne 14, 3, 50), (39, 0, .aload_n 0, 1, 0), (40, 0, .getfield 10, 3, 900), (43, 0, .iload_n 3, 1, 0), (44, 0, .putfield 160, 3, 201), (47, 0, .goto 26, 3, 73), (50, 0, .iload_n 1, 1, 0), (51, 0, .bipush 6, 2, 0), (53, 0, .if_icmp .ne 11, 3, 64), (56, 0, .aload_n 0, 1, 0), (57, 0, .iload_n 3, 1, 0), (58, 0, .putfield 163, 3, 913), (61, 0, .goto 12, 3, 73), (64, 0, .aload_n 0, 1, 0), (65, 0, .getfield 10, 3, 900), (68, 0, .iload_n 2, 1, 0), (69, 0, .iload_n 3, 1, 0), (70, 0, .invokevirtual 404, 3, 6), (73, 0, .return_, 1, 0)]
abbrev cX9_copyDeeds : ByteArray := prog_1_method_50_code
def yX9_copyDeeds : MethodName := ⟨RX9, "copyDeeds", "([I[I)V"⟩
def cdX9_copyDeeds : List Ent := [(0, 0, .iconst 0, 1, 0), (1, 0, .istore_n 2, 1, 0), (2, 1, .iload_n 2, 1, 0), (3, 0, .aload_n 0, 1, 0), (4, 0, .arraylength, 1, 0), (5, 0, .if_icmp .ge 21, 3, 26), (8, 0, .iload_n 2, 1, 0), (9, 0, .aload_n 1, 1, 0), (10, 0, .arraylength, 1, 0), (11, 0, .if_icmp .ge 15, 3, 26), (14, 0, .aload_n 1, 1, 0), (15, 0, .iload_n 2, 1, 0), (16, 0, .aload_n 0, 1, 0), (17, 0, .iload_n 2, 1, 0), (18, 0, .iaload, 1, 0), (19, 0, .iastore, 1, 0), (20, 0, .iinc 2 1, 3, 0), (23, 0, .goto (-21), 3, 2), (26, 0, .return_, 1, 0)]
abbrev cX9_choices : ByteArray := prog_1_method_56_code
def yX9_choices : MethodName := ⟨RX9, "choices", "(II)J"⟩
def cdX9_choices : List Ent := [(0, 0, .iload_n 1, 1, 0), (1, 0, .iload_n 0, 1, 0), (2, 0, .if_icmp .le 5, 3, 7), (5, 0, .lconst 0, 1, 0), (6, 0, .lreturn, 1, 0), (7, 0, .lconst 1, 1, 0), (8, 0, .lstore_n 2, 1, 0), (9, 0, .iconst 0, 1, 0), (10, 0, .istore 4, 2, 0), (12, 1, .iload 4, 2, 0), (14, 0, .iload_n 1, 1, 0), (15, 0, .if_icmp .ge 23, 3, 38), (18, 0, .lload_n 2, 1, 0), (19, 0, .iload_n 0, 1, 0), (20, 0, .iload 4, 2, 0), (22, 0, .isub, 1, 0), (23, 0, .i2l, 1, 0), (24, 0, .lmul, 1, 0), (25, 0, .iload 4, 2, 0), (27, 0, .iconst 1, 1, 0), (28, 0, .iadd, 1, 0), (29, 0, .i2l, 1, 0), (30, 0, .ldiv, 1, 0), (31, 0, .lstore_n 2, 1, 0), (32, 0, .iinc 4 1, 3, 0), (35, 0, .goto (-23), 3, 12), (38, 0, .lload_n 2, 1, 0), (39, 0, .lreturn, 1, 0)]
abbrev cX9_lowest : ByteArray := prog_1_method_57_code
def yX9_lowest : MethodName := ⟨RX9, "lowest", "(JJI)J"⟩
def cdX9_lowest : List Ent := [(0, 0, .lload_n 0, 1, 0), (1, 0, .lconst 0, 1, 0), (2, 0, .lcmp, 1, 0), (3, 0, .ifCond .eq 9, 3, 12), (6, 0, .lload_n 2, 1, 0), (7, 0, .lconst 0, 1, 0), (8, 0, .lcmp, 1, 0), (9, 0, .ifCond .ne 7, 3, 16), (12, 0, .iload 4, 2, 0), (14, 0, .i2l, 1, 0), (15, 0, .lreturn, 1, 0), (16, 0, .lload_n 0, 1, 0), (17, 0, .lstore 5, 2, 0), (19, 0, .lload_n 2, 1, 0), (20, 0, .lstore 7, 2, 0), (22, 0, .iconst 0, 1, 0), (23, 0, .istore 9, 2, 0), (25, 1, .iload 9, 2, 0), (27, 0, .bipush 100, 2, 0), (29, 0, .if_icmp .ge 31, 3, 60), (32, 0, .lload 7, 2, 0), (34, 0, .lconst 0, 1, 0), (35, 0, .lcmp, 1, 0), (36, 0, .ifCond .eq 24, 3, 60), (39, 0, .lload 5, 2, 0), (41, 0, .lload 7, 2, 0), (43, 0, .lrem, 1, 0), (44, 0, .lstore 10, 2, 0), (46, 0, .lload 7, 2, 0), (48, 0, .lstore 5, 2, 0), (50, 0, .lload 10, 2, 0), (52, 0, .lstore 7, 2, 0), (54, 0, .iinc 9 1, 3, 0), (57, 0, .goto (-32), 3, 25), (60, 0, .lload 5, 2, 0), (62, 0, .lconst 0, 1, 0), (63, 0, .lcmp, 1, 0), (64, 0, .ifCond .ne 9, 3, 73), (67, 0, .iload 4, 2, 0), (69, 0, .i2l, 1, 0), (70, 0, .goto 16, 3, 86), (73, 0, .iload 4, 2, 0), (75, 0, .ifCond .ne 7, 3, 82), (78, 0, .lload_n 0, 1, 0), (79, 0, .goto 4, 3, 83), (82, 0, .lload_n 2, 1, 0), (83, 0, .lload 5, 2, 0), (85, 0, .ldiv, 1, 0), (86, 0, .lreturn, 1, 0)]
abbrev cJ6_bitCount_0f7a4 : ByteArray := prog_15_method_49_code
def yJ6_bitCount_0f7a4 : MethodName := ⟨RJ6, "bitCount", "(I)I"⟩
def cdJ6_bitCount_0f7a4 : List Ent := [(0, 0, .iload_n 0, 1, 0), (1, 0, .iload_n 0, 1, 0), (2, 0, .iconst 1, 1, 0), (3, 0, .iushr, 1, 0), (4, 0, .ldc_w 265, 3, 1), (7, 0, .iand, 1, 0), (8, 0, .isub, 1, 0), (9, 0, .istore_n 0, 1, 0), (10, 0, .iload_n 0, 1, 0), (11, 0, .ldc_w 266, 3, 2), (14, 0, .iand, 1, 0), (15, 0, .iload_n 0, 1, 0), (16, 0, .iconst 2, 1, 0), (17, 0, .iushr, 1, 0), (18, 0, .ldc_w 266, 3, 2), (21, 0, .iand, 1, 0), (22, 0, .iadd, 1, 0), (23, 0, .istore_n 0, 1, 0), (24, 0, .iload_n 0, 1, 0), (25, 0, .iload_n 0, 1, 0), (26, 0, .iconst 4, 1, 0), (27, 0, .iushr, 1, 0), (28, 0, .iadd, 1, 0), (29, 0, .ldc_w 267, 3, 3), (32, 0, .iand, 1, 0), (33, 0, .istore_n 0, 1, 0), (34, 0, .iload_n 0, 1, 0), (35, 0, .iload_n 0, 1, 0), (36, 0, .bipush 8, 2, 0), (38, 0, .iushr, 1, 0), (39, 0, .iadd, 1, 0), (40, 0, .istore_n 0, 1, 0), (41, 0, .iload_n 0, 1, 0), (42, 0, .iload_n 0, 1, 0), (43, 0, .bipush 16, 2, 0), (45, 0, .iushr, 1, 0), (46, 0, .iadd, 1, 0), (47, 0, .istore_n 0, 1, 0), (48, 0, .iload_n 0, 1, 0), (49, 0, .bipush 63, 2, 0), (51, 0, .iand, 1, 0), (52, 0, .ireturn, 1, 0)]
abbrev cJ0_length_8abf5 : ByteArray := prog_17_method_54_code
def yJ0_length_8abf5 : MethodName := ⟨RJ0, "length", "()I"⟩
def cdJ0_length_8abf5 : List Ent := [(0, 0, .aload_n 0, 1, 0), (1, 0, .getfield 9, 3, 1101), (4, 0, .arraylength, 1, 0), (5, 0, .aload_n 0, 1, 0), (6, 0, .invokevirtual 335, 3, 116), (9, 0, .ishr, 1, 0), (10, 0, .ireturn, 1, 0)]
abbrev cJ0_indexOf_0f7a4 : ByteArray := prog_17_method_79_code
def yJ0_indexOf_0f7a4 : MethodName := ⟨RJ0, "indexOf", "(I)I"⟩
def cdJ0_indexOf_0f7a4 : List Ent := [(0, 0, .aload_n 0, 1, 0), (1, 0, .iload_n 1, 1, 0), (2, 0, .iconst 0, 1, 0), (3, 0, .invokevirtual 633, 3, 115), (6, 0, .ireturn, 1, 0)]
abbrev cJ0_indexOf_7cf53 : ByteArray := prog_17_method_80_code
def yJ0_indexOf_7cf53 : MethodName := ⟨RJ0, "indexOf", "(II)I"⟩
def cdJ0_indexOf_7cf53 : List Ent := [(0, 0, .aload_n 0, 1, 0), (1, 0, .invokevirtual 492, 3, 117), (4, 0, .ifCond .eq 19, 3, 23), (7, 0, .aload_n 0, 1, 0), (8, 0, .getfield 9, 3, 1101), (11, 0, .iload_n 1, 1, 0), (12, 0, .iload_n 2, 1, 0), (13, 0, .aload_n 0, 1, 0), (14, 0, .invokevirtual 505, 3, 113), (17, 0, .invokestatic 637, 3, 119), (20, 0, .goto 16, 3, 36), (23, 0, .aload_n 0, 1, 0), (24, 0, .getfield 9, 3, 1101), (27, 0, .iload_n 1, 1, 0), (28, 0, .iload_n 2, 1, 0), (29, 0, .aload_n 0, 1, 0), (30, 0, .invokevirtual 505, 3, 113), (33, 0, .invokestatic 640, 3, 9999), (36, 0, .ireturn, 1, 0)]
abbrev cJ0_coder_7d493 : ByteArray := prog_17_method_152_code
def yJ0_coder_7d493 : MethodName := ⟨RJ0, "coder", "()B"⟩
def cdJ0_coder_7d493 : List Ent := [(0, 0, .getstatic 38, 3, 4), (3, 0, .ifCond .eq 10, 3, 13), (6, 0, .aload_n 0, 1, 0), (7, 0, .getfield 15, 3, 1102), (10, 0, .goto 4, 3, 14), (13, 0, .iconst 1, 1, 0), (14, 0, .ireturn, 1, 0)]
abbrev cJ0_isLatin1_aae02 : ByteArray := prog_17_method_154_code
def yJ0_isLatin1_aae02 : MethodName := ⟨RJ0, "isLatin1", "()Z"⟩
def cdJ0_isLatin1_aae02 : List Ent := [(0, 0, .getstatic 38, 3, 4), (3, 0, .ifCond .eq 14, 3, 17), (6, 0, .aload_n 0, 1, 0), (7, 0, .getfield 15, 3, 1102), (10, 0, .ifCond .ne 7, 3, 17), (13, 0, .iconst 1, 1, 0), (14, 0, .goto 4, 3, 18), (17, 0, .iconst 0, 1, 0), (18, 0, .ireturn, 1, 0)]
abbrev cJ1_canEncode_9a6ad : ByteArray := prog_18_method_4_code
def yJ1_canEncode_9a6ad : MethodName := ⟨RJ1, "canEncode", "(I)Z"⟩
def cdJ1_canEncode_9a6ad : List Ent := [(0, 0, .iload_n 0, 1, 0), (1, 0, .ifCond .lt 14, 3, 15), (4, 0, .iload_n 0, 1, 0), (5, 0, .sipush 255, 3, 0), (8, 0, .if_icmp .gt 7, 3, 15), (11, 0, .iconst 1, 1, 0), (12, 0, .goto 4, 3, 16), (15, 0, .iconst 0, 1, 0), (16, 0, .ireturn, 1, 0)]
abbrev cJ1_indexOf_4cfef : ByteArray := prog_18_method_22_code
def yJ1_indexOf_4cfef : MethodName := ⟨RJ1, "indexOf", "([BIII)I"⟩
def cdJ1_indexOf_4cfef : List Ent := [(0, 0, .iload_n 1, 1, 0), (1, 0, .invokestatic 88, 3, 118), (4, 0, .ifCond .ne 5, 3, 9), (7, 0, .iconst (-1), 1, 0), (8, 0, .ireturn, 1, 0), (9, 0, .iload_n 2, 1, 0), (10, 0, .iconst 0, 1, 0), (11, 0, .invokestatic 92, 3, 1001), (14, 0, .istore_n 2, 1, 0), (15, 0, .iload_n 3, 1, 0), (16, 0, .aload_n 0, 1, 0), (17, 0, .arraylength, 1, 0), (18, 0, .invokestatic 38, 3, 1002), (21, 0, .istore_n 3, 1, 0), (22, 0, .iload_n 2, 1, 0), (23, 0, .iload_n 3, 1, 0), (24, 0, .if_icmp .lt 5, 3, 29), (27, 0, .iconst (-1), 1, 0), (28, 0, .ireturn, 1, 0), (29, 0, .aload_n 0, 1, 0), (30, 0, .iload_n 1, 1, 0), (31, 0, .iload_n 2, 1, 0), (32, 0, .iload_n 3, 1, 0), (33, 0, .invokestatic 95, 3, 120), (36, 0, .ireturn, 1, 0)]
abbrev cJ1_indexOfChar_4cfef : ByteArray := prog_18_method_23_code
def yJ1_indexOfChar_4cfef : MethodName := ⟨RJ1, "indexOfChar", "([BIII)I"⟩
def cdJ1_indexOfChar_4cfef : List Ent := [(0, 0, .iload_n 1, 1, 0), (1, 0, .i2b, 1, 0), (2, 0, .istore 4, 2, 0), (4, 0, .iload_n 2, 1, 0), (5, 0, .istore 5, 2, 0), (7, 1, .iload 5, 2, 0), (9, 0, .iload_n 3, 1, 0), (10, 0, .if_icmp .ge 21, 3, 31), (13, 0, .aload_n 0, 1, 0), (14, 0, .iload 5, 2, 0), (16, 0, .baload, 1, 0), (17, 0, .iload 4, 2, 0), (19, 0, .if_icmp .ne 6, 3, 25), (22, 0, .iload 5, 2, 0), (24, 0, .ireturn, 1, 0), (25, 0, .iinc 5 1, 3, 0), (28, 0, .goto (-21), 3, 7), (31, 0, .iconst (-1), 1, 0), (32, 0, .ireturn, 1, 0)]
abbrev cJ7_fill_d0a16 : ByteArray := prog_21_method_101_code
def yJ7_fill_d0a16 : MethodName := ⟨RJ7, "fill", "([JJ)V"⟩
def cdJ7_fill_d0a16 : List Ent := [(0, 0, .iconst 0, 1, 0), (1, 0, .istore_n 3, 1, 0), (2, 0, .aload_n 0, 1, 0), (3, 0, .arraylength, 1, 0), (4, 0, .istore 4, 2, 0), (6, 1, .iload_n 3, 1, 0), (7, 0, .iload 4, 2, 0), (9, 0, .if_icmp .ge 13, 3, 22), (12, 0, .aload_n 0, 1, 0), (13, 0, .iload_n 3, 1, 0), (14, 0, .lload_n 1, 1, 0), (15, 0, .lastore, 1, 0), (16, 0, .iinc 3 1, 3, 0), (19, 0, .goto (-13), 3, 6), (22, 0, .return_, 1, 0)]
abbrev cJ7_fill_53178 : ByteArray := prog_21_method_103_code
def yJ7_fill_53178 : MethodName := ⟨RJ7, "fill", "([II)V"⟩
def cdJ7_fill_53178 : List Ent := [(0, 0, .iconst 0, 1, 0), (1, 0, .istore_n 2, 1, 0), (2, 0, .aload_n 0, 1, 0), (3, 0, .arraylength, 1, 0), (4, 0, .istore_n 3, 1, 0), (5, 1, .iload_n 2, 1, 0), (6, 0, .iload_n 3, 1, 0), (7, 0, .if_icmp .ge 13, 3, 20), (10, 0, .aload_n 0, 1, 0), (11, 0, .iload_n 2, 1, 0), (12, 0, .iload_n 1, 1, 0), (13, 0, .iastore, 1, 0), (14, 0, .iinc 2 1, 3, 0), (17, 0, .goto (-12), 3, 5), (20, 0, .return_, 1, 0)]
/-- method: name, code, maxLocals, return type, own class, parameters, 1 if static -/
abbrev MI : Type := MethodName × ByteArray × Nat × Option FieldType × Nat × Nat × Nat
def miL : List MI := [(yX0_bodies, cX0_bodies, 1, (some .int), 0, 0, 0),
  (yX0_ran, cX0_ran, 1, (some .int), 0, 0, 0),
  (yX1_done, cX1_done, 1, (some .int), 1, 0, 0),
  (yX1_add, cX1_add, 5, none, 1, 4, 0),
  (yX1_forgetFirst, cX1_forgetFirst, 2, none, 1, 0, 0),
  (yX2_door, cX2_door, 2, (some .int), 2, 1, 0),
  (yX2_setDoor, cX2_setDoor, 3, none, 2, 2, 0),
  (yX2_holds, cX2_holds, 2, (some .boolean), 2, 1, 0),
  (yX2_become, cX2_become, 3, none, 2, 1, 0),
  (yX2_amount, cX2_amount, 6, (some .int), 2, 5, 0),
  (yX2_held, cX2_held, 1, (some .int), 2, 1, 1),
  (yX2_worked, cX2_worked, 5, (some .int), 2, 0, 0),
  (yX2_named, cX2_named, 2, (some .int), 2, 1, 0),
  (yX2_push, cX2_push, 3, (some .int), 2, 2, 0),
  (yX2_under, cX2_under, 4, (some .int), 2, 2, 0),
  (yX2_joined, cX2_joined, 3, (some .int), 2, 3, 1),
  (yX3_length, cX3_length, 1, (some .int), 3, 0, 0),
  (yX3_size, cX3_size, 1, (some .int), 3, 0, 0),
  (yX3_codeAt, cX3_codeAt, 2, (some .int), 3, 1, 0),
  (yX3_take, cX3_take, 2, (some .boolean), 3, 1, 0),
  (yX3_empty, cX3_empty, 1, none, 3, 0, 0),
  (yX3_read, cX3_read, 2, (some .int), 3, 0, 0),
  (yX3_readLine, cX3_readLine, 1, none, 3, 0, 0),
  (yX3_readLevel, cX3_readLevel, 6, none, 3, 2, 0),
  (yX3_readOperand, cX3_readOperand, 3, none, 3, 1, 0),
  (yX3_readOpened, cX3_readOpened, 3, none, 3, 2, 0),
  (yX3_readNumber, cX3_readNumber, 3, none, 3, 0, 0),
  (yX3_next, cX3_next, 1, (some .int), 3, 0, 0),
  (yX3_step, cX3_step, 2, none, 3, 1, 0),
  (yX3_levelOf, cX3_levelOf, 1, (some .int), 3, 1, 1),
  (yX4_begin, cX4_begin, 3, none, 4, 2, 0),
  (yX4_add, cX4_add, 3, none, 4, 2, 0),
  (yX4_right, cX4_right, 1, (some .int), 4, 1, 1),
  (yX4_down, cX4_down, 1, (some .int), 4, 1, 1),
  (yX4_greater, cX4_greater, 1, (some .int), 4, 0, 0),
  (yX5_begin, cX5_begin, 6, none, 5, 3, 0),
  (yX5_addHour, cX5_addHour, 2, none, 5, 1, 0),
  (yX5_bestAt, cX5_bestAt, 2, (some .int), 5, 1, 0),
  (yX5_number, cX5_number, 3, (some .int), 5, 2, 0),
  (yX5_amount, cX5_amount, 7, (some .int), 5, 3, 0),
  (yX5_keepPath, cX5_keepPath, 3, none, 5, 1, 0),
  (yX5_layBest, cX5_layBest, 4, (some .boolean), 5, 1, 0),
  (yX5_leanOfBase, cX5_leanOfBase, 4, none, 5, 2, 0),
  (yX5_layNext, cX5_layNext, 7, none, 5, 4, 0),
  (yX5_leanBehind, cX5_leanBehind, 6, (some .int), 5, 2, 0),
  (yX5_letOutBest, cX5_letOutBest, 8, (some .boolean), 5, 1, 0),
  (yX5_hasMark, cX5_hasMark, 3, (some .boolean), 5, 1, 0),
  (yX5_isStanding, cX5_isStanding, 5, (some .boolean), 5, 1, 0),
  (yX5_keepCuts, cX5_keepCuts, 7, none, 5, 3, 0),
  (yX5_sellBest, cX5_sellBest, 2, none, 5, 1, 0),
  (yX5_sellNext, cX5_sellNext, 9, none, 5, 4, 0),
  (yX5_turnsBest, cX5_turnsBest, 3, none, 5, 1, 0),
  (yX5_turnNext, cX5_turnNext, 11, (some .int), 5, 4, 0),
  (yX6_length, cX6_length, 1, (some .int), 6, 0, 0),
  (yX6_holdRow, cX6_holdRow, 3, none, 6, 2, 0),
  (yX6_refusal, cX6_refusal, 2, (some .int), 6, 1, 0),
  (yX6_refusalAt, cX6_refusalAt, 2, (some .int), 6, 1, 0),
  (yX6_cell, cX6_cell, 2, (some .long), 6, 1, 0),
  (yX6_write, cX6_write, 4, none, 6, 2, 0),
  (yX6_lowestBits, cX6_lowestBits, 3, (some .long), 6, 1, 0),
  (yX7_begin, cX7_begin, 2, none, 7, 1, 0),
  (yX7_run, cX7_run, 6, none, 7, 3, 0),
  (yX7_cutOne, cX7_cutOne, 7, none, 7, 3, 0),
  (yX7_letGo, cX7_letGo, 4, (some .int), 7, 2, 0),
  (yX8_become, cX8_become, 2, none, 8, 1, 0),
  (yX8_hasRick, cX8_hasRick, 2, (some .boolean), 8, 1, 0),
  (yX8_height, cX8_height, 2, (some .int), 8, 1, 0),
  (yX8_hasLayer, cX8_hasLayer, 3, (some .boolean), 8, 2, 0),
  (yX8_number, cX8_number, 5, (some .int), 8, 3, 0),
  (yX8_nameOf, cX8_nameOf, 3, (some .int), 8, 2, 0),
  (yX8_layersOfAll, cX8_layersOfAll, 3, (some .int), 8, 0, 0),
  (yX8_putOn, cX8_putOn, 6, (some .int), 8, 3, 0),
  (yX8_takeOut, cX8_takeOut, 6, none, 8, 2, 0),
  (yX8_tellNamed, cX8_tellNamed, 6, none, 8, 3, 0),
  (yX8_nameAnew, cX8_nameAnew, 4, (some .int), 8, 1, 0),
  (yX8_growOlder, cX8_growOlder, 2, none, 8, 0, 0),
  (yX8_kept, cX8_kept, 6, (some .int), 8, 3, 0),
  (yX8_leanOf, cX8_leanOf, 5, none, 8, 3, 0),
  (yX9_rick, cX9_rick, 1, (some .int), 9, 0, 0),
  (yX9_lay, cX9_lay, 3, (some .int), 9, 2, 0),
  (yX9_mend, cX9_mend, 6, (some .int), 9, 3, 0),
  (yX9_of, cX9_of, 4, (some .int), 9, 2, 0),
  (yX9_feed, cX9_feed, 2, (some .int), 9, 1, 0),
  (yX9_law, cX9_law, 2, (some .int), 9, 0, 0),
  (yX9_keeps, cX9_keeps, 2, (some .int), 9, 1, 0),
  (yX9_lean, cX9_lean, 3, (some .int), 9, 2, 0),
  (yX9_winter, cX9_winter, 6, (some .int), 9, 3, 0),
  (yX9_leanThen, cX9_leanThen, 6, (some .int), 9, 4, 0),
  (yX9_order, cX9_order, 8, (some .int), 9, 3, 0),
  (yX9_letOut, cX9_letOut, 4, (some .int), 9, 3, 0),
  (yX9_worth, cX9_worth, 4, (some .int), 9, 3, 0),
  (yX9_likely, cX9_likely, 11, (some .long), 9, 3, 0),
  (yX9_byTurns, cX9_byTurns, 4, (some .int), 9, 3, 0),
  (yX9_cut, cX9_cut, 3, (some .int), 9, 1, 0),
  (yX9_day, cX9_day, 1, (some .int), 9, 0, 0),
  (yX9_led, cX9_led, 2, (some .int), 9, 1, 0),
  (yX9_image, cX9_image, 1, (some .int), 9, 0, 0),
  (yX9_back, cX9_back, 2, (some .int), 9, 0, 0),
  (yX9_row, cX9_row, 5, (some .int), 9, 3, 0),
  (yX9_put, cX9_put, 7, (some .int), 9, 3, 0),
  (yX9_count, cX9_count, 2, (some .int), 9, 1, 0),
  (yX9_shelfAt, cX9_shelfAt, 2, (some (.object "HayRemembers$Shelf")), 9, 1, 0),
  (yX9_hasLayerAt, cX9_hasLayerAt, 2, (some .boolean), 9, 1, 0),
  (yX9_isHour, cX9_isHour, 2, (some .boolean), 9, 1, 1),
  (yX9_laid, cX9_laid, 3, (some .int), 9, 2, 0),
  (yX9_hoursOn, cX9_hoursOn, 2, (some .int), 9, 1, 1),
  (yX9_leastOf, cX9_leastOf, 1, (some .int), 9, 1, 1),
  (yX9_mostOf, cX9_mostOf, 1, (some .int), 9, 1, 1),
  (yX9_tell, cX9_tell, 4, none, 9, 3, 0),
  (yX9_copyDeeds, cX9_copyDeeds, 3, none, 9, 2, 1),
  (yX9_choices, cX9_choices, 5, (some .long), 9, 2, 1),
  (yX9_lowest, cX9_lowest, 12, (some .long), 9, 3, 1),
  (yJ6_bitCount_0f7a4, cJ6_bitCount_0f7a4, 1, (some .int), 13, 1, 1),
  (yJ0_length_8abf5, cJ0_length_8abf5, 1, (some .int), 11, 0, 0),
  (yJ0_indexOf_0f7a4, cJ0_indexOf_0f7a4, 2, (some .int), 11, 1, 0),
  (yJ0_indexOf_7cf53, cJ0_indexOf_7cf53, 3, (some .int), 11, 2, 0),
  (yJ0_coder_7d493, cJ0_coder_7d493, 1, (some .byte), 11, 0, 0),
  (yJ0_isLatin1_aae02, cJ0_isLatin1_aae02, 1, (some .boolean), 11, 0, 0),
  (yJ1_canEncode_9a6ad, cJ1_canEncode_9a6ad, 1, (some .boolean), 12, 1, 1),
  (yJ1_indexOf_4cfef, cJ1_indexOf_4cfef, 4, (some .int), 12, 4, 1),
  (yJ1_indexOfChar_4cfef, cJ1_indexOfChar_4cfef, 6, (some .int), 12, 4, 1),
  (yJ7_fill_d0a16, cJ7_fill_d0a16, 5, none, 14, 2, 1),
  (yJ7_fill_53178, cJ7_fill_53178, 4, none, 14, 2, 1)]
def cdL : List (List Ent) := [cdX0_bodies, cdX0_ran, cdX1_done, cdX1_add, cdX1_forgetFirst, cdX2_door, cdX2_setDoor, cdX2_holds, cdX2_become, cdX2_amount, cdX2_held, cdX2_worked, cdX2_named, cdX2_push, cdX2_under, cdX2_joined, cdX3_length, cdX3_size, cdX3_codeAt, cdX3_take, cdX3_empty, cdX3_read, cdX3_readLine, cdX3_readLevel, cdX3_readOperand, cdX3_readOpened, cdX3_readNumber, cdX3_next, cdX3_step, cdX3_levelOf, cdX4_begin, cdX4_add, cdX4_right, cdX4_down, cdX4_greater, cdX5_begin, cdX5_addHour, cdX5_bestAt, cdX5_number, cdX5_amount, cdX5_keepPath, cdX5_layBest, cdX5_leanOfBase, cdX5_layNext, cdX5_leanBehind, cdX5_letOutBest, cdX5_hasMark, cdX5_isStanding, cdX5_keepCuts, cdX5_sellBest, cdX5_sellNext, cdX5_turnsBest, cdX5_turnNext, cdX6_length, cdX6_holdRow, cdX6_refusal, cdX6_refusalAt, cdX6_cell, cdX6_write, cdX6_lowestBits, cdX7_begin, cdX7_run, cdX7_cutOne, cdX7_letGo, cdX8_become, cdX8_hasRick, cdX8_height, cdX8_hasLayer, cdX8_number, cdX8_nameOf, cdX8_layersOfAll, cdX8_putOn, cdX8_takeOut, cdX8_tellNamed, cdX8_nameAnew, cdX8_growOlder, cdX8_kept, cdX8_leanOf, cdX9_rick, cdX9_lay, cdX9_mend, cdX9_of, cdX9_feed, cdX9_law, cdX9_keeps, cdX9_lean, cdX9_winter, cdX9_leanThen, cdX9_order, cdX9_letOut, cdX9_worth, cdX9_likely, cdX9_byTurns, cdX9_cut, cdX9_day, cdX9_led, cdX9_image, cdX9_back, cdX9_row, cdX9_put, cdX9_count, cdX9_shelfAt, cdX9_hasLayerAt, cdX9_isHour, cdX9_laid, cdX9_hoursOn, cdX9_leastOf, cdX9_mostOf, cdX9_tell, cdX9_copyDeeds, cdX9_choices, cdX9_lowest, cdJ6_bitCount_0f7a4, cdJ0_length_8abf5, cdJ0_indexOf_0f7a4, cdJ0_indexOf_7cf53, cdJ0_coder_7d493, cdJ0_isLatin1_aae02, cdJ1_canEncode_9a6ad, cdJ1_indexOf_4cfef, cdJ1_indexOfChar_4cfef, cdJ7_fill_d0a16, cdJ7_fill_53178]
def nNM : Nat := 123
def mpL : List (Nat × Nat × Nat × Nat) := [(810, 40, 808, 809), (814, 40, 812, 813), (806, 39, 804, 805), (753, 39, 751, 752), (757, 39, 756, 21), (406, 33, 404, 405), (770, 33, 768, 769), (483, 33, 481, 482), (940, 33, 938, 939), (423, 33, 421, 422), (426, 33, 425, 0), (436, 33, 435, 2), (440, 33, 439, 3), (444, 33, 443, 4), (448, 33, 447, 5), (451, 33, 450, 0), (794, 34, 792, 793), (944, 34, 942, 943), (948, 34, 946, 947), (790, 34, 788, 789), (952, 34, 950, 951), (822, 34, 820, 821), (826, 34, 825, 23), (830, 34, 829, 24), (834, 34, 833, 25), (933, 34, 932, 29), (842, 34, 841, 27), (838, 34, 837, 26), (846, 34, 845, 28), (936, 34, 935, 0), (464, 36, 462, 463), (469, 36, 467, 468), (472, 36, 471, 0), (477, 36, 476, 0), (487, 36, 485, 486), (563, 38, 561, 562), (573, 38, 571, 572), (610, 38, 608, 609), (586, 38, 585, 11), (590, 38, 589, 12), (600, 38, 599, 14), (577, 38, 575, 576), (581, 38, 580, 10), (596, 38, 595, 13), (604, 38, 603, 15), (618, 38, 616, 617), (622, 38, 621, 16), (626, 38, 625, 17), (637, 38, 636, 18), (645, 38, 643, 644), (649, 38, 648, 19), (669, 38, 667, 668), (673, 38, 672, 20), (522, 41, 520, 521), (967, 41, 965, 966), (503, 41, 501, 502), (978, 41, 976, 977), (526, 41, 524, 525), (982, 41, 980, 981), (986, 41, 985, 30), (511, 37, 510, 7), (507, 37, 505, 506), (533, 37, 532, 8), (538, 37, 537, 9), (515, 35, 513, 514), (368, 35, 366, 367), (379, 35, 377, 378), (397, 35, 395, 396), (401, 35, 399, 400), (749, 35, 747, 748), (802, 35, 800, 801), (388, 35, 386, 387), (543, 35, 541, 542), (765, 35, 763, 764), (710, 35, 708, 709), (689, 35, 687, 688), (418, 35, 416, 417), (460, 35, 458, 459), (728, 32, 726, 727), (364, 32, 362, 363), (738, 32, 736, 737), (393, 32, 391, 392), (786, 32, 784, 785), (818, 32, 816, 817), (410, 32, 408, 409), (455, 32, 453, 454), (495, 32, 493, 494), (550, 32, 548, 549), (554, 32, 552, 553), (614, 32, 612, 613), (641, 32, 639, 640), (653, 32, 651, 652), (665, 32, 663, 664), (680, 32, 678, 679), (685, 32, 683, 684), (694, 32, 692, 693), (698, 32, 696, 697), (706, 32, 704, 705), (963, 32, 961, 962), (974, 32, 972, 973), (798, 32, 796, 797), (499, 32, 498, 6), (414, 32, 413, 1), (371, 32, 370, 0), (384, 32, 383, 0), (557, 32, 556, 0), (742, 32, 741, 0), (745, 32, 744, 0), (761, 32, 760, 22), (702, 32, 701, 0), (658, 32, 657, 0), (661, 32, 660, 0), (629, 50, 628, 0), (865, 43, 863, 864), (851, 43, 849, 850), (855, 43, 853, 854), (869, 43, 867, 868), (859, 43, 857, 858), (875, 44, 874, 0), (872, 44, 871, 0), (880, 44, 879, 0), (970, 48, 969, 0), (569, 48, 568, 0)]
/-- field links: own class, index, class, slot, place -/
def ftL : List (Nat × Nat × Nat × Nat × Nat) := [(0, 18, 0, 1, 273), (0, 22, 0, 3, 275), (1, 9, 1, 0, 256), (1, 13, 1, 1, 257), (1, 17, 1, 2, 258), (2, 7, 2, 1, 67), (2, 13, 2, 2, 70), (2, 19, 2, 3, 71), (2, 22, 2, 5, 73), (2, 25, 2, 6, 74), (2, 43, 2, 4, 72), (2, 52, 2, 0, 65), (3, 9, 3, 0, 97), (3, 13, 3, 2, 99), (3, 16, 3, 1, 98), (3, 20, 3, 3, 100), (3, 23, 3, 4, 101), (3, 26, 3, 5, 102), (4, 7, 4, 0, 142), (4, 13, 4, 1, 145), (5, 12, 5, 3, 207), (5, 18, 5, 4, 208), (5, 22, 5, 7, 211), (5, 25, 5, 8, 212), (5, 28, 5, 9, 213), (5, 31, 5, 10, 214), (5, 34, 5, 11, 215), (5, 37, 5, 12, 216), (5, 40, 5, 13, 217), (5, 43, 5, 14, 218), (5, 46, 5, 2, 206), (5, 62, 5, 5, 209), (5, 66, 5, 6, 210), (5, 92, 4, 0, 143), (5, 95, 4, 1, 146), (5, 98, 2, 1, 69), (5, 101, 5, 0, 202), (5, 153, 5, 1, 204), (6, 11, 6, 0, 296), (6, 15, 6, 4, 299), (6, 19, 6, 2, 297), (6, 22, 6, 3, 298), (7, 12, 7, 0, 163), (7, 21, 7, 7, 176), (7, 25, 7, 6, 175), (7, 33, 7, 1, 165), (7, 37, 7, 2, 167), (7, 40, 7, 3, 169), (7, 43, 7, 4, 171), (7, 46, 7, 5, 173), (8, 9, 8, 1, 124), (8, 15, 8, 2, 125), (8, 18, 8, 3, 126), (8, 21, 8, 0, 122), (9, 10, 9, 0, 312), (9, 19, 9, 1, 313), (9, 26, 9, 2, 314), (9, 30, 9, 3, 315), (9, 36, 9, 4, 316), (9, 45, 9, 5, 317), (9, 52, 9, 6, 318), (9, 59, 9, 7, 319), (9, 66, 9, 8, 320), (9, 72, 9, 9, 321), (9, 76, 9, 10, 322), (9, 80, 9, 11, 323), (9, 84, 8, 0, 123), (9, 157, 2, 0, 66), (9, 160, 2, 1, 68), (9, 163, 9, 13, 325), (9, 195, 4, 0, 144), (9, 198, 4, 1, 147), (9, 209, 7, 1, 166), (9, 212, 7, 2, 168), (9, 215, 7, 3, 170), (9, 218, 7, 4, 172), (9, 221, 7, 5, 174), (9, 224, 7, 0, 164), (9, 242, 5, 0, 203), (9, 290, 5, 1, 205), (9, 311, 9, 14, 326), (9, 314, 9, 12, 324), (9, 318, 9, 15, 327)]
/-- method links: own class, index, method (1001 ..: the library's), place -/
def mtL : List (Nat × Nat × Nat × Nat) := [(1, 20, 4, 754), (2, 28, 34, 484), (2, 34, 17, 941), (2, 37, 1002, 427), (2, 45, 18, 945), (2, 49, 10, 424), (2, 55, 11, 433), (2, 58, 1001, 430), (2, 61, 12, 437), (2, 63, 13, 441), (2, 66, 14, 445), (2, 69, 15, 449), (3, 29, 22, 823), (3, 32, 27, 835), (3, 36, 23, 827), (3, 40, 28, 843), (3, 44, 24, 831), (3, 47, 29, 934), (3, 51, 26, 839), (3, 56, 114, 848), (3, 61, 25, 930), (4, 16, 32, 470), (4, 20, 33, 475), (4, 30, 1003, 488), (4, 35, 1001, 491), (5, 50, 66, 564), (5, 56, 1002, 565), (5, 70, 68, 566), (5, 74, 122, 567), (5, 80, 38, 583), (5, 82, 9, 591), (5, 88, 42, 578), (5, 104, 43, 593), (5, 108, 30, 582), (5, 111, 39, 587), (5, 113, 31, 592), (5, 116, 40, 597), (5, 120, 44, 601), (5, 123, 1001, 606), (5, 126, 34, 605), (5, 130, 46, 619), (5, 134, 47, 623), (5, 137, 48, 634), (5, 141, 112, 627), (5, 146, 7, 633), (5, 150, 50, 646), (5, 156, 52, 670), (5, 160, 1003, 674), (5, 163, 32, 675), (5, 166, 33, 676), (6, 28, 121, 968), (6, 34, 53, 527), (6, 37, 59, 983), (7, 29, 64, 512), (7, 49, 60, 508), (7, 52, 53, 519), (7, 58, 57, 523), (7, 62, 65, 528), (7, 66, 67, 529), (7, 70, 62, 530), (7, 74, 68, 534), (7, 78, 63, 535), (7, 82, 5, 544), (7, 88, 77, 545), (7, 92, 7, 546), (7, 96, 76, 539), (7, 100, 72, 540), (8, 25, 1004, 516), (8, 31, 65, 380), (8, 35, 67, 402), (8, 39, 66, 389), (8, 43, 69, 766), (8, 47, 1002, 690), (8, 52, 68, 419), (8, 56, 9, 420), (8, 62, 30, 461), (8, 68, 76, 465), (8, 72, 31, 466), (9, 88, 65, 365), (9, 92, 103, 369), (9, 96, 66, 376), (9, 100, 104, 381), (9, 104, 101, 496), (9, 108, 55, 500), (9, 115, 57, 559), (9, 127, 81, 739), (9, 130, 106, 740), (9, 133, 107, 743), (9, 136, 69, 746), (9, 139, 3, 750), (9, 143, 108, 758), (9, 147, 67, 394), (9, 150, 68, 398), (9, 154, 5, 403), (9, 166, 19, 787), (9, 169, 16, 791), (9, 173, 21, 819), (9, 176, 8, 937), (9, 180, 20, 949), (9, 183, 102, 411), (9, 186, 76, 415), (9, 191, 77, 457), (9, 201, 7, 480), (9, 205, 61, 504), (9, 227, 105, 555), (9, 231, 35, 560), (9, 235, 36, 570), (9, 239, 41, 574), (9, 245, 37, 607), (9, 248, 45, 615), (9, 251, 49, 642), (9, 256, 1002, 655), (9, 261, 110, 656), (9, 265, 111, 659), (9, 269, 53, 558), (9, 287, 51, 666), (9, 297, 72, 681), (9, 301, 75, 686), (9, 304, 64, 699), (9, 307, 109, 700), (9, 321, 74, 707), (9, 324, 2, 803), (9, 347, 0, 807), (9, 353, 54, 964), (9, 356, 56, 975), (9, 359, 58, 979), (9, 386, 70, 799), (9, 389, 1, 811), (9, 398, 71, 385), (9, 401, 73, 762), (9, 404, 6, 767), (11, 335, 116, 866), (11, 492, 117, 856), (11, 505, 113, 862), (11, 633, 115, 852), (11, 637, 119, 870), (12, 38, 1002, 877), (12, 88, 118, 873), (12, 92, 1001, 876), (12, 95, 120, 878)]
/-- statics: own class, index, which, place -/
def gtL : List (Nat × Nat × Nat × Nat) := [(4, 23, 1, 473), (4, 27, 2, 478), (11, 38, 4, 860)]
/-- a String's own fields: index, 1 value 2 coder, place -/
def sfL : List (Nat × Nat × Nat) := [(9, 1, 993), (15, 2, 992)]
def ktL : List (Nat × Nat × Int32 × Nat) := [(9, 190, (-2000000000), 456), (13, 265, 1431655765, 630), (13, 266, 858993459, 631), (13, 267, 252645135, 632)]
def ltL : List (Nat × Nat × Int64 × Nat) := [(9, 123, 100, 372), (9, 125, 10, 374), (9, 254, (-9223372036854775808), 654), (9, 392, 999, 373), (9, 394, 7, 375)]
/-- the cells: (0, class, fields: 0 a number, k + 1 the cell k), (1, type, [length]) numbers, (2, 3, [length]) longs, (3, 4, [length, first, step]) cells -/
def layL : List (Nat × Nat × List Nat) := [(0, 9, [2, 3, 11, 15, 4, 5, 6, 7, 8, 35, 54, 55, 0, 0, 0, 0]) /- 0 x -/,
  (0, 2, [0, 0, 36, 37, 0, 38, 39]) /- 1 law -/,
  (0, 3, [40, 0, 41, 0, 0, 0]) /- 2 reader -/,
  (0, 4, [0, 0]) /- 3 sum -/,
  (0, 7, [19, 0, 0, 0, 0, 0, 2, 9]) /- 4 thought -/,
  (0, 5, [0, 0, 2, 10, 45, 0, 0, 46, 47, 48, 49, 50, 51, 52, 53]) /- 5 search -/,
  (0, 1, [42, 0, 0]) /- 6 changes -/,
  (0, 0, [43, 0, 44, 0, 0, 0]) /- 7 acts -/,
  (0, 4, [0, 0]) /- 8 tsum -/,
  (0, 4, [0, 0]) /- 9 ssum -/,
  (0, 8, [0, 12, 13, 14]) /- 10 now -/,
  (1, 0, [192]) /- 11 now.numbers -/,
  (1, 0, [48]) /- 12 now.names -/,
  (1, 0, [4]) /- 13 now.heights -/,
  (0, 8, [0, 16, 17, 18]) /- 14 imaged -/,
  (1, 0, [192]) /- 15 imaged.numbers -/,
  (1, 0, [48]) /- 16 imaged.names -/,
  (1, 0, [4]) /- 17 imaged.heights -/,
  (0, 8, [0, 20, 21, 22]) /- 18 tyard -/,
  (1, 0, [192]) /- 19 tyard.numbers -/,
  (1, 0, [48]) /- 20 tyard.names -/,
  (1, 0, [4]) /- 21 tyard.heights -/,
  (0, 6, [0, 0, 0, 0, 24]) /- 22 shelf0 -/,
  (2, 3, [60]) /- 23 shelf0.cells -/,
  (0, 6, [0, 0, 0, 0, 26]) /- 24 shelf1 -/,
  (2, 3, [60]) /- 25 shelf1.cells -/,
  (0, 6, [0, 0, 0, 0, 28]) /- 26 shelf2 -/,
  (2, 3, [60]) /- 27 shelf2.cells -/,
  (0, 6, [0, 0, 0, 0, 30]) /- 28 shelf3 -/,
  (2, 3, [60]) /- 29 shelf3.cells -/,
  (0, 6, [0, 0, 0, 0, 32]) /- 30 shelf4 -/,
  (2, 3, [60]) /- 31 shelf4.cells -/,
  (0, 6, [0, 0, 0, 0, 34]) /- 32 shelf5 -/,
  (2, 3, [60]) /- 33 shelf5.cells -/,
  (3, 4, [6, 22, 2]) /- 34 shelves -/,
  (1, 0, [8]) /- 35 law.doors -/,
  (1, 0, [121]) /- 36 law.code -/,
  (1, 0, [64]) /- 37 law.stack -/,
  (1, 0, [6]) /- 38 law.named -/,
  (1, 0, [120]) /- 39 reader.tape -/,
  (1, 0, [121]) /- 40 reader.code -/,
  (1, 0, [160]) /- 41 changes.parts -/,
  (1, 0, [50]) /- 42 acts.kinds -/,
  (1, 0, [24]) /- 43 acts.ran -/,
  (1, 0, [48]) /- 44 search.numbers -/,
  (1, 0, [1728]) /- 45 search.amounts -/,
  (1, 0, [12]) /- 46 search.path -/,
  (1, 0, [12]) /- 47 search.best -/,
  (1, 0, [8]) /- 48 search.baseX -/,
  (1, 0, [8]) /- 49 search.baseY -/,
  (1, 0, [4]) /- 50 search.turn -/,
  (1, 0, [4096]) /- 51 search.queue -/,
  (1, 0, [4096]) /- 52 search.came -/,
  (1, 0, [5]) /- 53 x.deeds -/,
  (1, 0, [5]) /- 54 x.imagedDeeds -/]
def nNC : Nat := 55
-- places of the library's words: max.static=431 max.code=432 min.static=428 min.code=429 abs.static=489 abs.code=490 arraycopy.static=517 arraycopy.native=518 initMath=42 initSystem=49
