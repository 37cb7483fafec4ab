/-! A MACHINE OF NUMBERS over the fixed cells: what each instruction needs and does, as a Prop that computes (wpN); part 04 holds it against the JVM. -/
def nth {α : Type} (d : α) : List α → Nat → α
  | [], _ => d
  | x :: _, 0 => x
  | _ :: l, n + 1 => nth d l n
def mi (k : Nat) : MI := nth (yX0_bodies, cX0_bodies, 0, none, 0, 0, 0) miL k
def cdo (k : Nat) : List Ent := nth [] cdL k
def laySt : List (Nat × Nat × List Nat) := [(4, 0, [8]), (4, 0, [8]), (9, 0, []), (9, 0, []), (9, 0, []), (9, 0, []), (9, 0, []), (9, 0, []), (9, 0, []), (9, 0, []), (5, 0, []), (4, 1, [6])]
/-- a cell: below 900 the world's, 900, 901 the tables RIGHT, DOWN, 910 the text of names, 911 its bytes -/
def layK (a : Nat) : Nat × Nat × List Nat := match Nat.blt a 900 with
  | true => nth (9, 0, []) layL a
  | false => nth (9, 0, []) laySt (a - 900)
def stc (a : Nat) : List Int32 := nth [] [[0, 1, 1, 1, 0, -1, -1, -1], [-1, -1, 0, 1, 1, 1, 0, -1], [], [], [], [], [], [], [], [], [], [102, 97, 108, 109, 99, 107]] (a - 900)
def cI (n : Int) : Int32 := match n with
  | .ofNat k => nI k
  | .negSucc k => -(nI (k + 1))
abbrev Mem : Type := (Nat → Nat → Int32) × (Nat → Nat → Int64)
def mI (M : Mem) (a j : Nat) (v : Int32) : Mem := (fun a' => if a' = a then upd (M.1 a) j v else M.1 a', M.2)
def mL (M : Mem) (a j : Nat) (v : Int64) : Mem := (M.1, fun a' => if a' = a then vp_updL (M.2 a) j v else M.2 a')
def mC (M : Mem) (a0 a sp dp n : Nat) : Mem := (fun a' => if a' = a then va_cpy (M.1 a0) (M.1 a) sp dp n else M.1 a', M.2)
abbrev Lv : Type := List (Nat × Value)
abbrev Po : Type := Option Value → Mem → Prop
def lkp (lv : Lv) (i : Nat) : Option Value := match lv with
  | [] => none
  | q :: l => match Nat.beq q.1 i with
    | true => some q.2
    | false => lkp l i
def ldI (lv : Lv) (i : Nat) (f : Int32 → Prop) : Prop := match lkp lv i with
  | some (.int x) => f x
  | _ => False
def ldL (lv : Lv) (i : Nat) (f : Int64 → Prop) : Prop := match lkp lv i with
  | some (.long x) => f x
  | _ => False
def ldA (lv : Lv) (i : Nat) (f : Value → Prop) : Prop := match lkp lv i with
  | some (.ref x) => f (.ref x)
  | some .null => f .null
  | _ => False
def pI (st : List Value) (f : Int32 → List Value → Prop) : Prop := match st with
  | .int x :: r => f x r
  | _ => False
def pL (st : List Value) (f : Int64 → List Value → Prop) : Prop := match st with
  | .long x :: r => f x r
  | _ => False
def pR (st : List Value) (f : Nat → List Value → Prop) : Prop := match st with
  | .ref x :: r => f x r
  | _ => False
/-- a reference or null -/
def pA (st : List Value) (f : Value → List Value → Prop) : Prop := match st with
  | .ref x :: r => f (.ref x) r
  | .null :: r => f .null r
  | _ => False
/-- a value of one slot -/
def p1 (st : List Value) (f : Value → List Value → Prop) : Prop := match st with
  | .int x :: r => f (.int x) r
  | .ref x :: r => f (.ref x) r
  | .null :: r => f .null r
  | _ => False
def put1 (i : Nat) (v : Value) (lv : Lv) : Lv := (i, v) :: lv.filter (fun q => !(q.1 == i) && !(q.1 + 1 == i && q.2.category == 2))
def put2 (i : Nat) (v : Value) (lv : Lv) : Lv := (i, v) :: lv.filter (fun q => !(q.1 == i) && (!(q.1 == i + 1) && !(q.1 + 1 == i && q.2.category == 2)))
def iff1 (b : Bool) (p : Prop) : Prop := match b with
  | true => p
  | false => False
def cnd (c : ClassFile.Cond) (x y : Int32) : Prop := match c with
  | .eq => x = y
  | .ne => ¬ x = y
  | .lt => x < y
  | .ge => y ≤ x
  | .gt => y < x
  | .le => x ≤ y
def brn (c : Prop) (t f : Prop) : Prop := (c → t) ∧ (¬ c → f)
def tsw (x : Int32) (pc : Nat) (dp : Prop) (j : Nat → Prop) : Int → List Int → Prop
  | _, [] => dp
  | lo, o :: os => brn (x = cI lo) (j ((pc : Int) + o).toNat) (tsw x pc dp j (lo + 1) os)
def lsw (x : Int32) (pc : Nat) (dp : Prop) (j : Nat → Prop) : List (Int × Int) → Prop
  | [] => dp
  | a :: l => brn (x = cI a.1) (j ((pc : Int) + a.2).toNat) (lsw x pc dp j l)
/-- what a field's place holds: a number, or a cell -/
def fval (M : Mem) (a j r : Nat) : Value := match r with
  | 0 => .int (M.1 a j)
  | r + 1 => .ref r
def isB (ci slot : Nat) : Bool := match Nat.beq (ci * 100 + slot) 506, Nat.beq (ci * 100 + slot) 912, Nat.beq (ci * 100 + slot) 1028, Nat.beq (ci * 100 + slot) 1049 with
  | false, false, false, false => false
  | _, _, _, _ => true
/-- does a row or a read exist -/
def getf (aux a : Nat) (M : Mem) (f : Value → Prop) : Prop := match layK a with
  | (0, ci, fs) => iff1 (Nat.beq ci (aux / 100) && Nat.blt (aux % 100) fs.length) (f (fval M a (aux % 100) (nth 0 fs (aux % 100))))
  | (5, _, _) => match Nat.beq aux 1101, Nat.beq aux 1102 with
    | true, _ => f (.ref 911)
    | _, true => f (.int 0)
    | _, _ => False
  | _ => False
def setf (aux a : Nat) (f : Prop) : Prop := match layK a with
  | (0, ci, fs) => iff1 (Nat.beq ci (aux / 100) && Nat.blt (aux % 100) fs.length && Nat.beq (nth 1 fs (aux % 100)) 0) f
  | _ => False
def bok (aux : Nat) (x : Int32) (f : Prop) : Prop := match isB (aux / 100) (aux % 100) with
  | true => (x = 0 ∨ x = 1) ∧ f
  | false => f
/-- a read of an array of small numbers, of type t -/
def arI (t a : Nat) (i : Int32) (M : Mem) (f : Int32 → Prop) : Prop := match layK a with
  | (1, t', [n]) => iff1 (Nat.beq t t') (vp_in i n ∧ f (M.1 a i.toNatClampNeg))
  | (4, t', [n]) => iff1 (Nat.beq t t') (vp_in i n ∧ f ((stc a).getD i.toNatClampNeg 0))
  | _ => False
def asI (t a : Nat) (i : Int32) (f : Prop) : Prop := match layK a with
  | (1, t', [n]) => iff1 (Nat.beq t t') (vp_in i n ∧ f)
  | _ => False
def arL (a : Nat) (i : Int32) (f : Prop) : Prop := match layK a with
  | (2, 3, [n]) => vp_in i n ∧ f
  | _ => False
def arQ (a : Nat) (i : Int32) (f : Nat → Prop) : Prop := match layK a with
  | (3, 4, [n, b, s]) => vp_in i n ∧ f (b + s * i.toNatClampNeg)
  | _ => False
def aln (a : Nat) (f : Nat → Prop) : Prop := match layK a with
  | (1, _, [n]) => f n
  | (2, 3, [n]) => f n
  | (3, 4, [n, _, _]) => f n
  | (4, _, [n]) => f n
  | _ => False
/-- the room that is left on the stack under a call -/
def room8 (r : List Value) : Bool := Nat.ble ((r.map fun v => v.category).sum) 8
/-- a call's receiver: an object of the class -/
def recv (a o : Nat) (f : Prop) : Prop := match layK a with
  | (0, ci, _) => iff1 (Nat.beq ci o) f
  | (5, _, _) => iff1 (Nat.beq o 11) f
  | _ => False
def pN (st : List Value) (fr fn : List Value → Prop) : Prop := match st with
  | .ref _ :: r => fr r
  | .null :: r => fn r
  | _ => False
def p1I (st : List Value) (f : Int32 → Prop) : Prop := match st with
  | .int x :: [] => f x
  | _ => False
def p1L (st : List Value) (f : Int64 → Prop) : Prop := match st with
  | .long x :: [] => f x
  | _ => False
def p1A (st : List Value) (f : Value → Prop) : Prop := match st with
  | .ref x :: [] => f (.ref x)
  | .null :: [] => f .null
  | _ => False
def p0 (st : List Value) (f : Prop) : Prop := match st with
  | [] => f
  | _ => False
def cpy (a0 a : Nat) (f : Nat → Nat → Prop) : Prop := match layK a0, layK a with
  | (1, 0, [n0]), (1, 0, [n1]) => f n0 n1
  | _, _ => False
def isLng (rt : Option FieldType) : Bool := match rt with
  | some .long => true
  | _ => false
def isObj (rt : Option FieldType) : Bool := match rt with
  | some (.object _) => true
  | _ => false
def gst (aux : Nat) (f : Value → Prop) : Prop := match aux with
  | 1 => f (.ref 900)
  | 2 => f (.ref 901)
  | 4 => f (.int 1)
  | _ => False
def ldcV (aux : Nat) : Value := match Nat.beq aux 2000 with
  | true => .ref 910
  | false => .int (nth (0, 0, 0, 0) ktL aux).2.2.1
def ivS (aux : Nat) (st : List Value) (M : Mem) (nx : List Value → Mem → Prop) (call : Nat → List Value → Mem → Po → Prop) : Prop := match Nat.blt aux 1000 with
  | true => iff1 (Nat.ble (mi aux).2.2.2.2.2.1 st.length && room8 (st.drop (mi aux).2.2.2.2.2.1)) (call aux (st.take (mi aux).2.2.2.2.2.1).reverse M fun v M1 => nx (v.toList ++ st.drop (mi aux).2.2.2.2.2.1) M1)
  | false => match aux - 1000 with
    | 1 => pI st fun y r => pI r fun x q => iff1 (room8 q) (nx (.int (if x < y then y else x) :: q) M)
    | 2 => pI st fun y r => pI r fun x q => iff1 (room8 q) (nx (.int (if y < x then y else x) :: q) M)
    | 3 => pI st fun x q => iff1 (room8 q) (nx (.int (if 0 ≤ x then x else 0 - x) :: q) M)
    | 4 => pI st fun n r => pI r fun dp q => pR q fun a z => pI z fun sp y => pR y fun a0 w => cpy a0 a fun n0 n1 => iff1 (room8 w) ((¬ sp < 0) ∧ (¬ dp < 0) ∧ (¬ n < 0) ∧ sp.toNatClampNeg + n.toNatClampNeg ≤ n0 ∧ dp.toNatClampNeg + n.toNatClampNeg ≤ n1 ∧ nx w (mC M a0 a sp.toNatClampNeg dp.toNatClampNeg n.toNatClampNeg))
    | _ => False
def ivV (aux : Nat) (st : List Value) (M : Mem) (nx : List Value → Mem → Prop) (call : Nat → List Value → Mem → Po → Prop) : Prop :=
  pR (st.drop (mi aux).2.2.2.2.2.1) fun a r => iff1 (room8 r && Nat.blt aux 1000) (recv a (mi aux).2.2.2.2.1 (call aux (.ref a :: (st.take (mi aux).2.2.2.2.2.1).reverse) M fun v M1 => nx (v.toList ++ r) M1))
def rtk (rt : Option FieldType) (x : Int32) (f : Prop) : Prop := match rt with
  | some .int => f
  | some .boolean => (x = 0 ∨ x = 1) ∧ f
  | some .byte => x.toInt8.toInt32 = x ∧ f
  | _ => False
def wpI (rt : Option FieldType) (mL0 : Nat) (e : Ent) (lv : Lv) (st : List Value) (M : Mem) (Q : Po)
    (nx : Lv → List Value → Mem → Prop) (jm : Nat → Lv → List Value → Mem → Prop) (call : Nat → List Value → Mem → Po → Prop) : Prop :=
  match e.2.2.1 with
  | .aconst_null => nx lv (.null :: st) M
  | .iconst n => nx lv (.int (cI n) :: st) M
  | .bipush n => nx lv (.int (cI n) :: st) M
  | .sipush n => nx lv (.int (cI n) :: st) M
  | .lconst n => nx lv (.long (Int64.ofNat n) :: st) M
  | .ldc _ => nx lv (ldcV e.2.2.2.2 :: st) M
  | .ldc_w _ => nx lv (.int (nth (0, 0, 0, 0) ktL e.2.2.2.2).2.2.1 :: st) M
  | .ldc2_w _ => nx lv (.long (nth (0, 0, 0, 0) ltL e.2.2.2.2).2.2.1 :: st) M
  | .iload i => ldI lv i fun x => nx lv (.int x :: st) M
  | .iload_n i => ldI lv i fun x => nx lv (.int x :: st) M
  | .lload i => ldL lv i fun x => nx lv (.long x :: st) M
  | .lload_n i => ldL lv i fun x => nx lv (.long x :: st) M
  | .aload i => ldA lv i fun v => nx lv (v :: st) M
  | .aload_n i => ldA lv i fun v => nx lv (v :: st) M
  | .istore i => pI st fun x r => iff1 (Nat.blt i mL0) (nx (put1 i (.int x) lv) r M)
  | .istore_n i => pI st fun x r => iff1 (Nat.blt i mL0) (nx (put1 i (.int x) lv) r M)
  | .lstore i => pL st fun x r => iff1 (Nat.blt (i + 1) mL0) (nx (put2 i (.long x) lv) r M)
  | .lstore_n i => pL st fun x r => iff1 (Nat.blt (i + 1) mL0) (nx (put2 i (.long x) lv) r M)
  | .astore i => pA st fun v r => iff1 (Nat.blt i mL0) (nx (put1 i v lv) r M)
  | .astore_n i => pA st fun v r => iff1 (Nat.blt i mL0) (nx (put1 i v lv) r M)
  | .iinc i n => ldI lv i fun x => iff1 (Nat.blt i mL0) (nx (put1 i (.int (x + cI n)) lv) st M)
  | .pop => p1 st fun _ r => nx lv r M
  | .dup => p1 st fun v r => nx lv (v :: v :: r) M
  | .dup2 => p1 st fun v r => p1 r fun u q => nx lv (v :: u :: v :: u :: q) M
  | .iadd => pI st fun y r => pI r fun x q => nx lv (.int (x + y) :: q) M
  | .isub => pI st fun y r => pI r fun x q => nx lv (.int (x - y) :: q) M
  | .imul => pI st fun y r => pI r fun x q => nx lv (.int (x * y) :: q) M
  | .idiv => pI st fun y r => pI r fun x q => ¬ y = 0 ∧ nx lv (.int (x / y) :: q) M
  | .irem => pI st fun y r => pI r fun x q => ¬ y = 0 ∧ nx lv (.int (x - x / y * y) :: q) M
  | .ineg => pI st fun x r => nx lv (.int (-x) :: r) M
  | .iand => pI st fun y r => pI r fun x q => nx lv (.int (x &&& y) :: q) M
  | .ior => pI st fun y r => pI r fun x q => nx lv (.int (x ||| y) :: q) M
  | .ixor => pI st fun y r => pI r fun x q => nx lv (.int (x ^^^ y) :: q) M
  | .ishl => pI st fun y r => pI r fun x q => nx lv (.int (x <<< (y &&& 31)) :: q) M
  | .ishr => pI st fun y r => pI r fun x q => nx lv (.int (x >>> (y &&& 31)) :: q) M
  | .iushr => pI st fun y r => pI r fun x q => nx lv (.int (x.toUInt32 >>> (y.toUInt32 &&& Int32.toUInt32 31)).toInt32 :: q) M
  | .ladd => pL st fun y r => pL r fun x q => nx lv (.long (x + y) :: q) M
  | .lsub => pL st fun y r => pL r fun x q => nx lv (.long (x - y) :: q) M
  | .lmul => pL st fun y r => pL r fun x q => nx lv (.long (x * y) :: q) M
  | .ldiv => pL st fun y r => pL r fun x q => ¬ y = 0 ∧ nx lv (.long (x / y) :: q) M
  | .lrem => pL st fun y r => pL r fun x q => ¬ y = 0 ∧ nx lv (.long (x - x / y * y) :: q) M
  | .lcmp => pL st fun y r => pL r fun x q => nx lv (.int (lg_cmp x y) :: q) M
  | .i2l => pI st fun x r => nx lv (.long x.toInt64 :: r) M
  | .l2i => pL st fun x r => nx lv (.int x.toInt32 :: r) M
  | .i2b => pI st fun x r => nx lv (.int x.toInt8.toInt32 :: r) M
  | .i2s => pI st fun x r => nx lv (.int x.toInt16.toInt32 :: r) M
  | .i2c => pI st fun x r => nx lv (.int (x.toUInt32 % 65536).toInt32 :: r) M
  | .goto _ => jm e.2.2.2.2 lv st M
  | .ifCond c _ => pI st fun x r => brn (cnd c x 0) (jm e.2.2.2.2 lv r M) (nx lv r M)
  | .if_icmp c _ => pI st fun y r => pI r fun x q => brn (cnd c x y) (jm e.2.2.2.2 lv q M) (nx lv q M)
  | .ifnull _ => pN st (fun r => nx lv r M) (fun r => jm e.2.2.2.2 lv r M)
  | .ifnonnull _ => pN st (fun r => jm e.2.2.2.2 lv r M) (fun r => nx lv r M)
  | .tableswitch d lo _ offs => pI st fun x r => tsw x e.1 (jm ((e.1 : Int) + d).toNat lv r M) (fun t => jm t lv r M) lo offs.toList
  | .lookupswitch d ps => pI st fun x r => lsw x e.1 (jm ((e.1 : Int) + d).toNat lv r M) (fun t => jm t lv r M) ps.toList
  | .getfield _ => pR st fun a r => getf e.2.2.2.2 a M fun v => nx lv (v :: r) M
  | .putfield _ => pI st fun x r => pR r fun a q => setf e.2.2.2.2 a (bok e.2.2.2.2 x (nx lv q (mI M a (e.2.2.2.2 % 100) x)))
  | .getstatic _ => gst e.2.2.2.2 fun v => nx lv (v :: st) M
  | .iaload => pI st fun i r => pR r fun a q => arI 0 a i M fun x => nx lv (.int x :: q) M
  | .baload => pI st fun i r => pR r fun a q => arI 1 a i M fun x => nx lv (.int x :: q) M
  | .laload => pI st fun i r => pR r fun a q => arL a i (nx lv (.long (M.2 a i.toNatClampNeg) :: q) M)
  | .aaload => pI st fun i r => pR r fun a q => arQ a i fun b => nx lv (.ref b :: q) M
  | .iastore => pI st fun x r => pI r fun i q => pR q fun a z => asI 0 a i (nx lv z (mI M a i.toNatClampNeg x))
  | .bastore => pI st fun x r => pI r fun i q => pR q fun a z => asI 1 a i (nx lv z (mI M a i.toNatClampNeg (vp_nar .byte x)))
  | .lastore => pL st fun x r => pI r fun i q => pR q fun a z => arL a i (nx lv z (mL M a i.toNatClampNeg x))
  | .arraylength => pR st fun a r => aln a fun n => nx lv (.int (nI n) :: r) M
  | .invokevirtual _ => ivV e.2.2.2.2 st M (nx lv) call
  | .invokestatic _ => ivS e.2.2.2.2 st M (nx lv) call
  | .ireturn => p1I st fun x => rtk rt x (Q (some (.int x)) M)
  | .lreturn => p1L st fun x => iff1 (isLng rt) (Q (some (.long x)) M)
  | .areturn => p1A st fun v => iff1 (isObj rt) (Q (some v) M)
  | .return_ => p0 st (iff1 rt.isNone (Q none M))
  | _ => False
def seekK : List Ent → Nat → List Ent
  | [], _ => []
  | e :: l, t => match Nat.beq e.1 t with
    | true => e :: l
    | false => seekK l t
