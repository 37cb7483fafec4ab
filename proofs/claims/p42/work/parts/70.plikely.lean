/-! likely, as doubles: never falls, never above 1, 1 in the end where there is a mark -/
def lkn (n c t p : Nat) : Nat := lowN (chN n (if n < t then n else t) - chN (n - c) (if n < t then n else t)) (chN n (if n < t then n else t)) p
def lkR (n c t : Nat) : UInt64 := FP.ddiv (FP.l2d (lN (lkn n c t 0))) (FP.l2d (lN (lkn n c t 1)))
def lkL (n c t : Nat) : UInt64 := match t with
  | 0 => FP.dconst0
  | t + 1 => lkR n c t
def nan64 (r : UInt64) : Bool := decide (r &&& 0x7fffffffffffffff ≤ 0x7ff0000000000000)
def okLk (n c t : Nat) : Bool := nan64 (lkR n c t) && nan64 (FP.dadd (lkR n c t) 4427486594234968593) && decide (¬ Op.cmpValue (FP.dcmp (FP.dadd (lkR n c t) 4427486594234968593) (lkL n c t)) .g < 0) && decide (Op.cmpValue (FP.dcmp (lkR n c t) FP.dconst1) .l ≤ 0)
theorem okLk_1 : (List.range 13).all (fun n => (List.range (n + 1)).all fun c => (List.range 13).all fun t => okLk n c t) = true := by decide +kernel
theorem okLk_2 : (List.range 13).all (fun n => (List.range (n + 1)).all fun c => decide (c = 0) || decide (Op.cmpValue (FP.dcmp (lkR n c 12) FP.dconst1) .l = 0)) = true := by decide +kernel
