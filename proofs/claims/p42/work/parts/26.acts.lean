/-! acts: how they run -/
def RA (M : Mem) (own b : Nat) (tr : List Nat) : Prop := M.1 7 3 = nI tr.length ∧ (∀ i c, tr[i]? = some c → M.1 43 i = nI c) ∧ M.1 7 4 = nI own ∧ M.1 7 5 = nI b
def FA (M M' : Mem) : Prop := Fr [7, 43] M M' ∧ ∀ j, j < 3 → M'.1 7 j = M.1 7 j
theorem FA_trans {M M1 M2 : Mem} (h1 : FA M M1) (h2 : FA M1 M2) : FA M M2 := ⟨Fr_trans h1.1 h2.1, fun j hj => (h2.2 j hj).trans (h1.2 j hj)⟩
theorem FA_refl {M : Mem} : FA M M := ⟨Fr_refl, fun _ _ => rfl⟩
/-- an act's answer, and what ran -/
abbrev AR : Type := Int32 × List Nat
def AP (M : Mem) (own b : Nat) (tr : List Nat) (p : AR) : Po := fun v M' => v = some (.int p.1) ∧ RA M' own b (tr ++ p.2) ∧ FA M M'
def lys (k : Nat) (x : Int32) (b : Nat) : AR :=
  if k = 1 ∨ k = 4 then (x + nI b + cI 3, [20, 1]) else if k = 6 then ((x + nI b) * cI 2, [70, 1]) else if k = 7 then ((x + nI b) * cI 2 - cI 1, [81, 70, 1]) else (x + nI b, [1])
def cts (k : Nat) (x : Int32) (b own : Nat) : AR :=
  if k = 3 then ((x ^^^ nI b) * cI 3, [40, 11]) else if k = 5 then ((x ^^^ nI b) * cI 3 - (lys own (cI 2) b).1, [60, 40, 11] ++ (lys own (cI 2) b).2) else (x ^^^ nI b, [11])
def lns0 (x : Int32) (b own : Nat) : AR := ((lys own x b).1 * cI 2, 10 :: (lys own x b).2)
def lns2 (x : Int32) (b own : Nat) : AR := (-(lns0 x b own).1, 30 :: (lns0 x b own).2)
def lns (k : Nat) (x : Int32) (b own : Nat) : AR :=
  if k = 2 then lns2 x b own else if k = 3 ∨ k = 5 then ((lns2 (x + cI 1) b own).1, 41 :: (lns2 (x + cI 1) b own).2)
  else if k = 7 then ((lns0 x b own).1 + (cts own (cI 2) b own).1, 80 :: ((lns0 x b own).2 ++ (cts own (cI 2) b own).2)) else lns0 x b own
def tls0 (x : Int32) (b own : Nat) : AR := ((lns own x b own).1 - (cts own (cI 1) b own).1, 2 :: ((lns own x b own).2 ++ (cts own (cI 1) b own).2))
def tls (k : Nat) (x : Int32) (b own : Nat) : AR :=
  if k = 4 then ((tls0 x b own).1 ^^^ cI 5, 50 :: (tls0 x b own).2) else if k = 5 then ((tls0 x b own).1 + cI 1, 61 :: (tls0 x b own).2) else tls0 x b own
theorem lys_l (k : Nat) (x : Int32) (b : Nat) : (lys k x b).2.length ≤ 3 := by unfold lys; (repeat' split) <;> simp
theorem cts_l (k : Nat) (x : Int32) (b own : Nat) : (cts k x b own).2.length ≤ 6 := by
  have := lys_l own (cI 2) b
  unfold cts; (repeat' split) <;> simp <;> omega
theorem lns0_l (x : Int32) (b own : Nat) : (lns0 x b own).2.length ≤ 4 := by
  have := lys_l own x b
  unfold lns0; simp; omega
theorem lns2_l (x : Int32) (b own : Nat) : (lns2 x b own).2.length ≤ 5 := by
  have := lns0_l x b own
  unfold lns2; simp; omega
theorem lns_l (k : Nat) (x : Int32) (b own : Nat) : (lns k x b own).2.length ≤ 11 := by
  have h1 := lns0_l x b own
  have h2 := lns2_l x b own
  have h3 := lns2_l (x + cI 1) b own
  have h4 := cts_l own (cI 2) b own
  unfold lns
  repeat' split
  · omega
  · simp; omega
  · simp; omega
  · omega