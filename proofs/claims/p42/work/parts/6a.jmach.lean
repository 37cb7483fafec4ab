/-! the law's own machine: numbers, doubles, the law's arrays beside the class's cells -/
/-- the law's own arrays: number, may this method write it, length, what it holds -/
abbrev Tm : Type := List (Nat × Bool × Nat × (Nat → Int32))
/-- the class's cells, the law's arrays, the room that is left -/
abbrev JSt : Type := Mem × Tm × Nat
def lkT (T : Tm) (a : Nat) : Option (Bool × Nat × (Nat → Int32)) := match T with
  | [] => none
  | t :: l => match Nat.beq t.1 a with
    | true => some t.2
    | false => lkT l a
def setT (T : Tm) (a : Nat) (f : Nat → Int32) : Tm := match T with
  | [] => []
  | t :: l => match Nat.beq t.1 a with
    | true => (t.1, t.2.1, t.2.2.1, f) :: l
    | false => t :: setT l a f
def dropT (T : Tm) (a : Nat) : Tm := match T with
  | [] => []
  | t :: l => match Nat.beq t.1 a with
    | true => dropT l a
    | false => t :: dropT l a
/-- a new array; with it the told ends are let go (3153: the row of rows) -/
def newT (T : Tm) (a n : Nat) : Tm := (a, true, n, fun _ => 0) :: dropT (dropT T a) 3153
/-- an array that is read: 950 is the script -/
def ldT (L : Nat) (xs : Nat → Int32) (T : Tm) (a : Nat) (F : Nat → (Nat → Int32) → Prop) : Prop := match Nat.beq a 950, Nat.beq a 3153 with
  | true, _ => F L xs
  | false, true => False
  | false, false => ∃ (w : Bool) (n : Nat) (f : Nat → Int32), lkT T a = some (w, n, f) ∧ F n f
def stT (T : Tm) (a : Nat) (F : Nat → (Nat → Int32) → Prop) : Prop := iff1 (!Nat.beq a 3153) (∃ (n : Nat) (f : Nat → Int32), lkT T a = some (true, n, f) ∧ F n f)
def isRef (id : Nat) (v : Value) : Bool := match v with
  | .ref k => Nat.beq k id
  | _ => false
def freshV (id : Nat) (st : List Value) : Bool := match st with
  | [] => true
  | v :: l => !isRef id v && freshV id l
def freshL (id : Nat) (lv : Lv) : Bool := match lv with
  | [] => true
  | q :: l => !isRef id q.2 && freshL id l
def isNum (v : Value) : Bool := match v with
  | .int _ => true
  | .long _ => true
  | _ => false
def allNum (l : List Value) : Bool := match l with
  | [] => true
  | v :: l => isNum v && allNum l
/-- what a helper may be given: numbers, the object, the script, an array of the law's -/
def isArg (v : Value) : Bool := match v with
  | .int _ => true
  | .long _ => true
  | .ref _ => true
  | _ => false
def allArg (l : List Value) : Bool := match l with
  | [] => true
  | v :: l => isArg v && allArg l
def pD (st : List Value) (f : UInt64 → List Value → Prop) : Prop := match st with
  | .double x :: r => f x r
  | _ => False
def ldD (lv : Lv) (i : Nat) (f : UInt64 → Prop) : Prop := match lkp lv i with
  | some (.double x) => f x
  | _ => False
def useG : Nat → Nat → (Nat → Prop) → Prop
  | 0, g, f => f g
  | n + 1, g, f => match g with
    | 0 => False
    | g + 1 => useG n g f
def jcost (k : Nat) : Nat := match k with
  | 11 => 1
  | _ => 0
def numV (v : Option Value) (f : Value → Prop) : Prop := match v with
  | some (.int x) => f (.int x)
  | some (.long x) => f (.long x)
  | _ => False
def jV (aux : Nat) (st : List Value) (M : Mem) (nx : List Value → Mem → Prop) (vc : Nat → List Value → Mem → Po → Prop) : Prop :=
  pR (st.drop (mi aux).2.2.2.2.2.1) fun a r => iff1 (room8 r && Nat.beq a 0 && allNum (st.take (mi aux).2.2.2.2.2.1)) (vc aux (.ref 0 :: (st.take (mi aux).2.2.2.2.2.1).reverse) M fun v M1 => numV v fun x => nx (x :: r) M1)
def jS (aux : Nat) (st : List Value) (S : JSt) (nx : List Value → JSt → Prop) (sc : Nat → List Value → JSt → (Int32 → Mem → Prop) → Prop) : Prop := match Nat.blt aux 1000 with
  | true => iff1 (Nat.ble (jm aux).2.2.2.2 st.length && room8 (st.drop (jm aux).2.2.2.2) && allArg (st.take (jm aux).2.2.2.2)) (useG (jcost aux) S.2.2 fun g => sc aux (st.take (jm aux).2.2.2.2).reverse S fun x M1 => nx (.int x :: st.drop (jm aux).2.2.2.2) (M1, S.2.1, g))
  | false => match aux - 1000 with
    | 1 => pI st fun y r => pI r fun x q => iff1 (room8 q) (nx (.int (if x < y then y else x) :: q) S)
    | 2 => pI st fun y r => pI r fun x q => iff1 (room8 q) (nx (.int (if y < x then y else x) :: q) S)
    | 3 => pI st fun x q => iff1 (room8 q) (nx (.int (if 0 ≤ x then x else 0 - x) :: q) S)
    | _ => False
def rtJ (rt : Option FieldType) (x : Int32) (f : Prop) : Prop := match rt with
  | some .int => f
  | some .boolean => (x = 0 ∨ x = 1) ∧ f
  | _ => False
def wpJ (L : Nat) (xs : Nat → Int32) (rt : Option FieldType) (mL0 : Nat) (e : Ent) (lv : Lv) (st : List Value) (S : JSt) (Z : Int32 → JSt → Prop)
    (nx : Lv → List Value → JSt → Prop) (jp : Nat → Lv → List Value → JSt → Prop) (vc : Nat → List Value → Mem → Po → Prop) (sc : Nat → List Value → JSt → (Int32 → Mem → Prop) → Prop) : Prop :=
  match e.2.2.1 with
  | .iconst n => nx lv (.int (cI n) :: st) S
  | .bipush n => nx lv (.int (cI n) :: st) S
  | .sipush n => nx lv (.int (cI n) :: st) S
  | .ldc _ => nx lv (.int 16777215 :: st) S
  | .ldc2_w _ => nx lv (.double 4427486594234968593 :: st) S
  | .iload i => ldI lv i fun x => nx lv (.int x :: st) S
  | .iload_n i => ldI lv i fun x => nx lv (.int x :: st) S
  | .aload i => ldA lv i fun v => nx lv (v :: st) S
  | .aload_n i => ldA lv i fun v => nx lv (v :: st) S
  | .istore i => pI st fun x r => iff1 (Nat.blt i mL0) (nx (put1 i (.int x) lv) r S)
  | .istore_n i => pI st fun x r => iff1 (Nat.blt i mL0) (nx (put1 i (.int x) lv) r S)
  | .astore i => pA st fun v r => iff1 (Nat.blt i mL0) (nx (put1 i v lv) r S)
  | .astore_n i => pA st fun v r => iff1 (Nat.blt i mL0) (nx (put1 i v lv) r S)
  | .iinc i n => ldI lv i fun x => iff1 (Nat.blt i mL0) (nx (put1 i (.int (x + cI n)) lv) st S)
  | .dup => p1 st fun v r => nx lv (v :: v :: r) S
  | .iadd => pI st fun y r => pI r fun x q => nx lv (.int (x + y) :: q) S
  | .isub => pI st fun y r => pI r fun x q => nx lv (.int (x - y) :: q) S
  | .imul => pI st fun y r => pI r fun x q => nx lv (.int (x * y) :: q) S
  | .idiv => pI st fun y r => pI r fun x q => ¬ y = 0 ∧ nx lv (.int (x / y) :: q) S
  | .irem => pI st fun y r => pI r fun x q => ¬ y = 0 ∧ nx lv (.int (x - x / y * y) :: q) S
  | .iand => pI st fun y r => pI r fun x q => nx lv (.int (x &&& y) :: q) S
  | .ior => pI st fun y r => pI r fun x q => nx lv (.int (x ||| y) :: q) S
  | .ishl => pI st fun y r => pI r fun x q => nx lv (.int (x <<< (y &&& 31)) :: q) S
  | .ishr => pI st fun y r => pI r fun x q => nx lv (.int (x >>> (y &&& 31)) :: q) S
  | .i2l => pI st fun x r => nx lv (.long x.toInt64 :: r) S
  | .goto _ => jp e.2.2.2.2 lv st S
  | .ifCond c _ => pI st fun x r => brn (cnd c x 0) (jp e.2.2.2.2 lv r S) (nx lv r S)
  | .if_icmp c _ => pI st fun y r => pI r fun x q => brn (cnd c x y) (jp e.2.2.2.2 lv q S) (nx lv q S)
  | .iaload => pI st fun i r => pR r fun a q => ldT L xs S.2.1 a fun n f => vp_in i n ∧ nx lv (.int (f i.toNatClampNeg) :: q) S
  | .arraylength => pR st fun a r => ldT L xs S.2.1 a fun n _ => nx lv (.int (nI n) :: r) S
  | .iastore => pI st fun x r => pI r fun i q => pR q fun a z => stT S.2.1 a fun n f => vp_in i n ∧ nx lv z (S.1, setT S.2.1 a (upd f i.toNatClampNeg x), S.2.2)
  | .newarray _ => pI st fun n r => iff1 (freshL (3000 + e.1) lv && freshV (3000 + e.1) r && !Nat.beq (3000 + e.1) 3153) (useG 1 S.2.2 fun g => (¬ n < 0 ∧ n.toNatClampNeg ≤ 30) ∧ nx lv (.ref (3000 + e.1) :: r) ((S.1, newT S.2.1 (3000 + e.1) n.toNatClampNeg, g) : JSt))
  | .l2d => pL st fun x r => nx lv (.double (FP.l2d x) :: r) S
  | .ddiv => pD st fun y r => pD r fun x q => vf_n64 (FP.ddiv x y) ∧ nx lv (.double (FP.ddiv x y) :: q) S
  | .dadd => pD st fun y r => pD r fun x q => vf_n64 (FP.dadd x y) ∧ nx lv (.double (FP.dadd x y) :: q) S
  | .dcmp op => pD st fun y r => pD r fun x q => nx lv (.int (Op.cmpValue (FP.dcmp x y) op) :: q) S
  | .dconst n => match n with
    | 0 => nx lv (.double FP.dconst0 :: st) S
    | 1 => nx lv (.double FP.dconst1 :: st) S
    | _ => False
  | .dload i => ldD lv i fun x => nx lv (.double x :: st) S
  | .dstore i => pD st fun x r => iff1 (Nat.blt (i + 1) mL0) (nx (put2 i (.double x) lv) r S)
  | .invokevirtual _ => jV e.2.2.2.2 st S.1 (fun st' M1 => nx lv st' (M1, S.2.1, S.2.2)) vc
  | .invokestatic _ => jS e.2.2.2.2 st S (nx lv) sc
  | .ireturn => p1I st fun x => rtJ rt x (Z x S)
  | _ => False
def jpN (L : Nat) (xs : Nat → Int32) (k : Nat) (B : Nat → Lv → List Value → JSt → Prop) (vc : Nat → List Value → Mem → Po → Prop) (sc : Nat → List Value → JSt → (Int32 → Mem → Prop) → Prop) (Z : Int32 → JSt → Prop) : Nat → List Ent → Lv → List Value → JSt → Prop
  | 0, _, _, _, _ => False
  | n + 1, here, lv, st, S => match here with
    | [] => False
    | e :: l => match e.2.1 with
      | 0 => wpJ L xs (jm k).2.2.2.1 (jm k).2.2.1 e lv st S Z (jpN L xs k B vc sc Z n l) (fun t => jpN L xs k B vc sc Z n (seekK (jdo k) t)) vc sc
      | _ => B e.1 lv st S
/-- from a loop's head on -/
def jpS (L : Nat) (xs : Nat → Int32) (k : Nat) (B : Nat → Lv → List Value → JSt → Prop) (vc : Nat → List Value → Mem → Po → Prop) (sc : Nat → List Value → JSt → (Int32 → Mem → Prop) → Prop) (Z : Int32 → JSt → Prop) (n : Nat) (here : List Ent) (lv : Lv) (st : List Value) (S : JSt) : Prop := match here with
  | [] => False
  | e :: l => wpJ L xs (jm k).2.2.2.1 (jm k).2.2.1 e lv st S Z (jpN L xs k B vc sc Z n l) (fun t => jpN L xs k B vc sc Z n (seekK (jdo k) t)) vc sc
/-- places in a method's body, as the walk sees them -/
def subL (lv lv' : Lv) : Prop := ∀ i v, (i, v) ∈ lv' → (i, v) ∈ lv
def subT (T T' : Tm) : Prop := T'.Sublist T
def JOk (L : Nat) (xs : Nat → Int32) (k : Nat) (jc : Nat → List Value → JSt → (Int32 → Mem → Prop) → Prop) (Bd : Nat → Lv → List Value → JSt → Prop) (Zr : Int32 → JSt → Prop) : Prop :=
  (∀ (n pc : Nat) (lv : Lv) (st : List Value) (S : JSt), (∀ (B : Nat → Lv → List Value → JSt → Prop) (vc : Nat → List Value → Mem → Po → Prop) (sc : Nat → List Value → JSt → (Int32 → Mem → Prop) → Prop) (Z : Int32 → JSt → Prop),
      (∀ pc lv st S, Bd pc lv st S → B pc lv st S) → (∀ k' as M (Q1 Q2 : Po), Call 250 k' as M Q1 → (∀ r M', Q1 r M' → Q2 r M') → vc k' as M Q2) →
      (∀ k' as S (Q1 Q2 : Int32 → Mem → Prop), jc k' as S Q1 → (∀ x M', Q1 x M' → Q2 x M') → sc k' as S Q2) → (∀ x S, Zr x S → Z x S) → jpS L xs k B vc sc Z n (seekK (jdo k) pc) lv st S) → Bd pc lv st S) ∧
  (∀ pc lv lv' st M T T' g, subL lv lv' → subT T T' → Bd pc lv' st (M, T', g) → Bd pc lv st (M, T, g))
