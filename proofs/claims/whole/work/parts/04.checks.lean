/-! what a program decides of the tables of part 02 -/
def ilen (i : Instr) : Nat := match i with
  | .iload _ => 2
  | .lload _ => 2
  | .aload _ => 2
  | .istore _ => 2
  | .lstore _ => 2
  | .astore _ => 2
  | .bipush _ => 2
  | .ldc _ => 2
  | .sipush _ => 3
  | .iinc _ _ => 3
  | .goto _ => 3
  | .ifCond _ _ => 3
  | .if_icmp _ _ => 3
  | .ifnull _ => 3
  | .ifnonnull _ => 3
  | .getfield _ => 3
  | .putfield _ => 3
  | .getstatic _ => 3
  | .invokevirtual _ => 3
  | .invokestatic _ => 3
  | .ldc_w _ => 3
  | .ldc2_w _ => 3
  | _ => 1
def okT (e : Ent) (off : Int) : Bool := decide ((e.1 : Int) + off = (e.2.2.2.2 : Int))
def sorted2 : List (Int × Int) → Bool
  | a :: b :: l => decide (a.1 < b.1) && sorted2 (b :: l)
  | _ => true
def okI (o : Nat) (e : Ent) : Bool := match e.2.2.1 with
  | .tableswitch d lo hi offs => decide (0 ≤ (e.1 : Int) + d) && offs.toList.all (fun q => decide (0 ≤ (e.1 : Int) + q)) && decide (0 ≤ lo) && decide (hi = lo + (offs.toList.length : Int) - 1) && decide (hi < 2147483647)
  | .lookupswitch d ps => decide (0 ≤ (e.1 : Int) + d) && ps.toList.all (fun q => decide (0 ≤ (e.1 : Int) + q.2) && decide (0 ≤ q.1) && decide (q.1 < 2147483647)) && (ps.toList.zip (ps.toList.drop 1)).all (fun (a, next) => a.1 < next.1)
  | i => Nat.beq e.2.2.2.1 (ilen i) && match i with
    | .goto off => okT e off
    | .ifCond _ off => okT e off
    | .if_icmp _ off => okT e off
    | .ifnull off => okT e off
    | .ifnonnull off => okT e off
    | .iconst n => decide (Int32.ofInt n = cI n)
    | .bipush n => decide ((Int8.ofInt n).toInt32 = cI n)
    | .sipush n => decide ((Int16.ofInt n).toInt32 = cI n)
    | .iinc _ n => decide (Int32.ofInt n = cI n)
    | .getfield ix => (ftL.any fun t => Nat.beq t.1 o && Nat.beq t.2.1 ix && Nat.beq (t.2.2.1 * 100 + t.2.2.2.1) e.2.2.2.2) || (Nat.beq o 11 && sfL.any fun t => Nat.beq t.1 ix && Nat.beq (1100 + t.2.1) e.2.2.2.2)
    | .putfield ix => ftL.any fun t => Nat.beq t.1 o && Nat.beq t.2.1 ix && Nat.beq (t.2.2.1 * 100 + t.2.2.2.1) e.2.2.2.2
    | .getstatic ix => Nat.beq e.2.2.2.2 0 || gtL.any fun t => Nat.beq t.1 o && Nat.beq t.2.1 ix && Nat.beq t.2.2.1 e.2.2.2.2
    | .invokevirtual ix => Nat.beq (mi e.2.2.2.2).2.2.2.2.2.2 0 && mtL.any fun t => Nat.beq t.1 o && Nat.beq t.2.1 ix && Nat.beq t.2.2.1 e.2.2.2.2
    | .invokestatic ix => Nat.beq e.2.2.2.2 9999 || ((Nat.ble 1000 e.2.2.2.2 || Nat.beq (mi e.2.2.2.2).2.2.2.2.2.2 1) && mtL.any fun t => Nat.beq t.1 o && Nat.beq t.2.1 ix && Nat.beq t.2.2.1 e.2.2.2.2)
    | .ldc ix => (Nat.beq e.2.2.2.2 2000 && Nat.beq o 3 && Nat.beq ix 54) || (Nat.blt e.2.2.2.2 ktL.length && Nat.beq (nth (0, 0, 0, 0) ktL e.2.2.2.2).1 o && Nat.beq (nth (0, 0, 0, 0) ktL e.2.2.2.2).2.1 ix)
    | .ldc_w ix => Nat.blt e.2.2.2.2 ktL.length && Nat.beq (nth (0, 0, 0, 0) ktL e.2.2.2.2).1 o && Nat.beq (nth (0, 0, 0, 0) ktL e.2.2.2.2).2.1 ix
    | .ldc2_w ix => Nat.blt e.2.2.2.2 ltL.length && Nat.beq (nth (0, 0, 0, 0) ltL e.2.2.2.2).1 o && Nat.beq (nth (0, 0, 0, 0) ltL e.2.2.2.2).2.1 ix
    | _ => true
def okE (b : ByteArray) (o : Nat) (e : Ent) : Bool := decide (decode b e.1 = .ok (e.2.2.1, e.2.2.2.1)) && okI o e
def chn : List Ent → Bool
  | e :: e' :: l => Nat.beq e'.1 (e.1 + e.2.2.2.1) && chn (e' :: l)
  | _ => true
def okM (k : Nat) : Bool := (cdo k).all (okE (mi k).2.1 (mi k).2.2.2.2.1) && chn (cdo k) && Nat.ble (mi k).2.2.1 20 && Nat.beq (nth (1, 0, .nop, 0, 0) (cdo k) 0).1 0
theorem okM_0 : (List.range 70).all okM = true := by decide +kernel
theorem okM_1 : ((List.range 70).map (· + 70)).all okM = true := by decide +kernel
theorem okM_2 : ((List.range 70).map (· + 140)).all okM = true := by decide +kernel
theorem okM_3 : ((List.range 72).map (· + 210)).all okM = true := by decide +kernel
theorem okM_all {k : Nat} (h : k < 282) : okM k = true := by
  rcases Nat.lt_or_ge k 70 with q | q
  · exact List.all_eq_true.mp okM_0 k (List.mem_range.mpr q)
  rcases Nat.lt_or_ge k 140 with q2 | q2
  · exact List.all_eq_true.mp okM_1 k (List.mem_map.mpr ⟨k - 70, List.mem_range.mpr (by omega), by omega⟩)
  rcases Nat.lt_or_ge k 210 with q3 | q3
  · exact List.all_eq_true.mp okM_2 k (List.mem_map.mpr ⟨k - 140, List.mem_range.mpr (by omega), by omega⟩)
  · exact List.all_eq_true.mp okM_3 k (List.mem_map.mpr ⟨k - 210, List.mem_range.mpr (by omega), by omega⟩)
/-- the words of the tables that stay as the machine grows warmer -/
def lwG : List Cond := lw_tbl.filter goodWord
theorem lwG_of {w : Cond} (i : Nat) (h : lw_tbl[i]? = some w) (g : goodWord w = true) : w ∈ lwG := List.mem_filter.mpr ⟨List.mem_of_getElem? h, g⟩
theorem lwG_good {w : Cond} (h : w ∈ lwG) : (w.onTables && w.keeps) = true ∨ ∃ ty, w = .arrayClass ty := good_of_word (List.mem_filter.mp h).2
def okW (k : Nat) : Bool :=
  decide (lw_tbl[(nth (0, 0, 0, 0) mpL k).1]? = some (.code (mi k).1 (mi k).2.1 (mi k).2.2.1 (mi k).2.2.2.1)) &&
  decide (lw_tbl[(nth (0, 0, 0, 0) mpL k).2.1]? = some (.initialized (mi k).1.cls)) &&
  (match (mi k).2.2.2.2.2.2 with
    | 1 => decide (lw_tbl[(nth (0, 0, 0, 0) mpL k).2.2.1]? = some (.static (mi k).1))
    | _ => decide (lw_tbl[(nth (0, 0, 0, 0) mpL k).2.2.1]? = some (.instanceMethod (mi k).1)) && decide (lw_tbl[(nth (0, 0, 0, 0) mpL k).2.2.2]? = some (.selects (mi k).1.cls (mi k).1 (mi k).1))) &&
  decide ((mi k).1.cls = nmC (mi k).2.2.2.2.1) && plainName (mi k).1.cls && decide ((mi k).1.cls ≠ "java/lang/invoke/MethodHandle") && decide ((mi k).1.cls ≠ "java/lang/invoke/VarHandle") &&
  decide ((parseMethodDescriptor (mi k).1.desc).map (fun d => d.parameters.length) = some (mi k).2.2.2.2.2.1)
theorem okW_0 : (List.range 140).all okW = true := by decide +kernel
theorem okW_1 : ((List.range 142).map (· + 140)).all okW = true := by decide +kernel
theorem okW_all {k : Nat} (h : k < 282) : okW k = true := by
  rcases Nat.lt_or_ge k 140 with q | q
  · exact List.all_eq_true.mp okW_0 k (List.mem_range.mpr q)
  · exact List.all_eq_true.mp okW_1 k (List.mem_map.mpr ⟨k - 140, List.mem_range.mpr (by omega), by omega⟩)
def clN (c : Nat) : vw_C := nth ("", TX0, 0) vwCl c
def okF (t : Nat × Nat × Nat × Nat × Nat) : Bool :=
  decide (lw_tbl[t.2.2.2.2]? = some (.fieldLink (nmC t.1) t.2.1 (nmC t.2.2.1) ((clN t.2.2.1).2.1 t.2.2.2.1).2.1 ((clN t.2.2.1).2.1 t.2.2.2.1).2.2.1)) &&
  Nat.blt t.2.2.1 11 && Nat.blt t.2.2.2.1 (clN t.2.2.1).2.2 && Nat.blt t.2.2.2.1 100 && decide (((clN t.2.2.1).2.1 t.2.2.2.1).1 = nmC t.2.2.1)
theorem okF_all : ftL.all okF = true := by decide +kernel
def okL (t : Nat × Nat × Nat × Nat) : Bool := match Nat.blt t.2.2.1 1000 with
  | true => decide (lw_tbl[t.2.2.2]? = some (.methodLink (nmC t.1) t.2.1 (mi t.2.2.1).1)) && Nat.blt t.2.2.1 282
  | false => match t.2.2.1 - 1000 with
    | 1 => decide (lw_tbl[t.2.2.2]? = some (.methodLink (nmC t.1) t.2.1 Lib.Math.max.name))
    | 2 => decide (lw_tbl[t.2.2.2]? = some (.methodLink (nmC t.1) t.2.1 Lib.Math.min.name))
    | 3 => decide (lw_tbl[t.2.2.2]? = some (.methodLink (nmC t.1) t.2.1 Lib.Math.abs.name))
    | 4 => decide (lw_tbl[t.2.2.2]? = some (.methodLink (nmC t.1) t.2.1 arraycopyName))
    | _ => false
theorem okL_all : mtL.all okL = true := by decide +kernel
def gsN (k : Nat) : String × String × String := nth ("", "", "") [("", "", ""), ("HayRemembers$Lean", "RIGHT", "[I"), ("HayRemembers$Lean", "DOWN", "[I"), ("HayRemembers$Acts", "ABOVE", "[I"), ("java/lang/String", "COMPACT_STRINGS", "Z")] k
theorem okG_all : gtL.all (fun t => decide (lw_tbl[t.2.2.2]? = some (.fieldLink (nmC t.1) t.2.1 (gsN t.2.2.1).1 (gsN t.2.2.1).2.1 (gsN t.2.2.1).2.2))) = true := by decide +kernel
theorem okK_all : ktL.all (fun t => decide (lw_tbl[t.2.2.2]? = some (.constant (nmC t.1) t.2.1 t.2.2.1))) = true := by decide +kernel
theorem okLo_all : ltL.all (fun t => decide (lw_tbl[t.2.2.2]? = some (.constantLong (nmC t.1) t.2.1 t.2.2.1))) = true := by decide +kernel
theorem okS_all : sfL.all (fun t => decide (lw_tbl[t.2.2]? = some (.fieldLink "java/lang/String" t.1 "java/lang/String" (match t.2.1 with | 1 => "value" | _ => "coder") (match t.2.1 with | 1 => "[B" | _ => "B")))) = true := by decide +kernel
