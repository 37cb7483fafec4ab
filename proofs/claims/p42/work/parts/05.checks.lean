/-! what a program decides of the tables of part 02 -/
def okT (e : Ent) (off : Int) : Bool := decide ((e.1 : Int) + off = (e.2.2.2.2 : Int))
def sorted2 : List (Int × Int) → Bool
  | a :: b :: l => decide (a.1 < b.1) && sorted2 (b :: l)
  | _ => true
def okI (o : Nat) (e : Ent) : Bool := match e.2.2.1 with
  | .tableswitch d lo hi offs => decide (0 ≤ (e.1 : Int) + d) && offs.toList.all (fun q => decide (0 ≤ (e.1 : Int) + q)) && decide (0 ≤ lo) && decide (hi = lo + (offs.toList.length : Int) - 1) && decide (hi < 2147483647)
  | .lookupswitch d ps => decide (0 ≤ (e.1 : Int) + d) && ps.toList.all (fun q => decide (0 ≤ (e.1 : Int) + q.2) && decide (0 ≤ q.1) && decide (q.1 < 2147483647)) && (ps.toList.zip (ps.toList.drop 1)).all (fun (a, next) => a.1 < next.1)
  | i => Nat.beq e.2.2.2.1 (ilen i) && match i with
    | .goto off => okT e off
    | .ifCond _ off => okT e off
    | .if_icmp _ off => okT e off
    | .ifnull off => okT e off
    | .ifnonnull off => okT e off
    | .iconst n => decide (Int32.ofInt n = cI n)
    | .bipush n => decide ((Int8.ofInt n).toInt32 = cI n)
    | .sipush n => decide ((Int16.ofInt n).toInt32 = cI n)
    | .iinc _ n => decide (Int32.ofInt n = cI n)
    | .getfield ix => (ftL.any fun t => Nat.beq t.1 o && Nat.beq t.2.1 ix && Nat.beq (t.2.2.1 * 100 + t.2.2.2.1) e.2.2.2.2) || (Nat.beq o 11 && sfL.any fun t => Nat.beq t.1 ix && Nat.beq (1100 + t.2.1) e.2.2.2.2)
    | .putfield ix => ftL.any fun t => Nat.beq t.1 o && Nat.beq t.2.1 ix && Nat.beq (t.2.2.1 * 100 + t.2.2.2.1) e.2.2.2.2
    | .getstatic ix => Nat.beq e.2.2.2.2 0 || gtL.any fun t => Nat.beq t.1 o && Nat.beq t.2.1 ix && Nat.beq t.2.2.1 e.2.2.2.2
    | .invokevirtual ix => Nat.beq (mi e.2.2.2.2).2.2.2.2.2.2 0 && mtL.any fun t => Nat.beq t.1 o && Nat.beq t.2.1 ix && Nat.beq t.2.2.1 e.2.2.2.2
    | .invokestatic ix => Nat.beq e.2.2.2.2 9999 || ((Nat.ble 1000 e.2.2.2.2 || Nat.beq (mi e.2.2.2.2).2.2.2.2.2.2 1) && mtL.any fun t => Nat.beq t.1 o && Nat.beq t.2.1 ix && Nat.beq t.2.2.1 e.2.2.2.2)
    | .ldc ix => (Nat.beq e.2.2.2.2 2000 && Nat.beq o 3 && Nat.beq ix 54) || (Nat.blt e.2.2.2.2 ktL.length && Nat.beq (nth (0, 0, 0, 0) ktL e.2.2.2.2).1 o && Nat.beq (nth (0, 0, 0, 0) ktL e.2.2.2.2).2.1 ix)
    | .ldc_w ix => Nat.blt e.2.2.2.2 ktL.length && Nat.beq (nth (0, 0, 0, 0) ktL e.2.2.2.2).1 o && Nat.beq (nth (0, 0, 0, 0) ktL e.2.2.2.2).2.1 ix
    | .ldc2_w ix => Nat.blt e.2.2.2.2 ltL.length && Nat.beq (nth (0, 0, 0, 0) ltL e.2.2.2.2).1 o && Nat.beq (nth (0, 0, 0, 0) ltL e.2.2.2.2).2.1 ix
    | _ => true
def isSw (i : Instr) : Bool := match i with
  | .tableswitch _ _ _ _ => true
  | .lookupswitch _ _ => true
  | _ => false
def chn : List Ent → Bool
  | e :: e' :: l => Nat.beq e'.1 (e.1 + e.2.2.2.1) && chn (e' :: l)
  | _ => true
def dchk : List Nat → List Ent → Bool
  | _, [] => true
  | l, e :: es => (isSw e.2.2.1 || ck e.2.2.1 l) && dchk (l.drop e.2.2.2.1) es
def bys (k : Nat) : List Nat := (mi k).2.1.data.toList.map UInt8.toNat
def okM (k : Nat) : Bool := dchk (bys k) (cdo k) && (cdo k).all (okI (mi k).2.2.2.2.1) && chn (cdo k) && Nat.ble (mi k).2.2.1 20 && Nat.beq (nth (1, 0, .nop, 0, 0) (cdo k) 0).1 0
theorem okM_0 : (List.range 70).all okM = true := by decide +kernel
theorem okM_1 : ((List.range 53).map (· + 70)).all okM = true := by decide +kernel
theorem okM_all {k : Nat} (h : k < 123) : okM k = true := by
  rcases Nat.lt_or_ge k 70 with q | q
  · exact List.all_eq_true.mp okM_0 k (List.mem_range.mpr q)
  · exact List.all_eq_true.mp okM_1 k (List.mem_map.mpr ⟨k - 70, List.mem_range.mpr (by omega), by omega⟩)
def okSw (k : Nat) : Bool := (cdo k).all fun e => !isSw e.2.2.1 || decide (decode (mi k).2.1 e.1 = .ok (e.2.2.1, e.2.2.2.1))
theorem okSw_0 : (List.range 123).all okSw = true := by decide +kernel
theorem okSw_all {k : Nat} (h : k < 123) : okSw k = true := List.all_eq_true.mp okSw_0 k (List.mem_range.mpr h)
/-- the words of the tables that stay as the machine grows warmer -/
def lwG : List Cond := lw_tbl.filter goodWord
theorem lwG_good {w : Cond} (h : w ∈ lwG) : (w.onTables && w.keeps) = true ∨ ∃ ty, w = .arrayClass ty := good_of_word (List.mem_filter.mp h).2
def okY (k : Nat) : Bool := decide ((mi k).1.cls = nmC (mi k).2.2.2.2.1) && Nat.blt (mi k).2.2.2.2.1 15 && plainName (mi k).1.cls && decide ((mi k).1.cls ≠ "java/lang/invoke/MethodHandle") && decide ((mi k).1.cls ≠ "java/lang/invoke/VarHandle") &&
  decide ((parseMethodDescriptor (mi k).1.desc).map (fun d => d.parameters.length) = some (mi k).2.2.2.2.2.1)
theorem okY_0 : (List.range 123).all okY = true := by decide +kernel
theorem okY_all {k : Nat} (h : k < 123) : okY k = true := List.all_eq_true.mp okY_0 k (List.mem_range.mpr h)
