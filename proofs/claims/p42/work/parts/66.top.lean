/-! the top layer's forces and ways -/
theorem ad_sb (x k w : Int32) : x + k * w + -k * w = x := by
  rw [Int32.neg_mul, Int32.add_assoc, Int32.add_neg_eq_sub, Int32.sub_self, Int32.add_zero]
def tbl (p : Nat → Bool) : Nat → Nat → Nat → Nat
  | 0, _, b => b
  | n + 1, i, b => tbl p n (i + 1) (if p i = true then b ||| 2 ^ i else b)
theorem tbl_tb {p : Nat → Bool} : ∀ (n i b j : Nat), (tbl p n i b).testBit j = (b.testBit j || (decide (i ≤ j ∧ j < i + n) && p j))
  | 0, i, b, j => by
    have h : decide (i ≤ j ∧ j < i + 0) = false := decide_eq_false (by omega)
    rw [h, Bool.false_and, Bool.or_false]
    rfl
  | n + 1, i, b, j => by
    unfold tbl
    rw [tbl_tb n]
    by_cases z : i = j
    · subst z
      have h1 : ¬ (i + 1 ≤ i ∧ i < i + 1 + n) := by omega
      have h2 : i ≤ i ∧ i < i + (n + 1) := by omega
      cases hp : p i <;> simp [h1, h2, Nat.testBit_or, Nat.testBit_two_pow_self]
    · have h1 : (i + 1 ≤ j ∧ j < i + 1 + n) ↔ (i ≤ j ∧ j < i + (n + 1)) := by omega
      have h2 : (if p i = true then b ||| 2 ^ i else b).testBit j = b.testBit j := by
        split
        · rw [Nat.testBit_or, Nat.testBit_two_pow_of_ne z, Bool.or_false]
        · rfl
      rw [h2]
      simp [h1]
theorem tbl_lt {p : Nat → Bool} : ∀ (n i b : Nat), i + n ≤ 12 → b < 4096 → tbl p n i b < 4096
  | 0, _, _, _, h => h
  | n + 1, i, b, hi, h => by
    unfold tbl
    refine tbl_lt n (i + 1) _ (by omega) ?_
    split
    · exact Nat.or_lt_two_pow (n := 12) h (Nat.pow_lt_pow_right (by omega) (by omega : i < 12))
    · exact h
theorem or_b {b i : Nat} {P : Prop} [Decidable P] (hb : b < 4096) (hi : i < 12) : (nI b ||| (if P then cI 1 <<< (nI i &&& 31) else cI 0)) = nI (if decide P = true then b ||| 2 ^ i else b) := by
  by_cases h : P
  · rw [if_pos h, if_pos (decide_eq_true h)]
    exact add_i hb hi
  · rw [if_neg h, if_neg (by simp [h])]
    show nI b ||| 0 = nI b
    exact Int32.or_zero
/-- the sum below the top layer -/
def tX (E : EnvK) (rk : Rk) (r : Nat) (q : Lyr) : Int32 := lX E rk r + -(kp E rk r (hgt rk r - 1) q) * rgt q.1
def tY (E : EnvK) (rk : Rk) (r : Nat) (q : Lyr) : Int32 := lY E rk r + -(kp E rk r (hgt rk r - 1) q) * dwn q.1
/-- whether it stands by a force, a way -/
def stF (E : EnvK) (rk : Rk) (r : Nat) (q : Lyr) (f : Nat) : Bool := decide (maxI (absI (tX E rk r q + amt E.1 E.2.1 (nI f) (nI q.2.2.2) (nI q.2.2.1) (nI (hgt rk r - 1)) (cI 0) * rgt q.1)) (absI (tY E rk r q + amt E.1 E.2.1 (nI f) (nI q.2.2.2) (nI q.2.2.1) (nI (hgt rk r - 1)) (cI 0) * dwn q.1)) ≤ E.2.2.1)
def stW (E : EnvK) (rk : Rk) (r : Nat) (q : Lyr) (w : Nat) : Bool := decide (maxI (absI (tX E rk r q + kp E rk r (hgt rk r - 1) q * rgt w)) (absI (tY E rk r q + kp E rk r (hgt rk r - 1) q * dwn w)) ≤ E.2.2.1)
def gtr (s : Nat) : Nat → Int32
  | 0 => cI (-2)
  | n + 1 => if s.testBit (n + 1) = true then nI (n + 1) else gtr s n
def aTop (s : St) (r w : Int32) : Int32 :=
  if (0 ≤ r.toInt ∧ r.toInt < ((sK s).length : Int)) ∧ 0 ≤ w.toInt ∧ w.toInt ≤ 2 then (match ((sK s).getD r.toInt.toNat [])[hgt (sK s) r.toInt.toNat - 1]? with
    | none => if w.toInt = 1 then cI (-2) else cI 0
    | some q => if w.toInt = 2 then nI (tbl (stW (envS s) (sK s) r.toInt.toNat q) 8 0 0) else if w.toInt = 0 then nI (pcn (tbl (stF (envS s) (sK s) r.toInt.toNat q) 9 1 0) 12) else gtr (tbl (stF (envS s) (sK s) r.toInt.toNat q) 9 1 0) 9) else cI (-1)