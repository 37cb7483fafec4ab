/-! the bodies; an act performed -/
def RK (M : Mem) (ks : List Nat) : Prop := M.1 7 1 = nI ks.length ∧ ks.length ≤ 50 ∧ ∀ i k, ks[i]? = some k → M.1 42 i = nI k ∧ k < 8
def RT (M : Mem) (tr : List Nat) : Prop := M.1 7 3 = nI tr.length ∧ tr.length ≤ 24 ∧ ∀ i c, tr[i]? = some c → M.1 43 i = nI c
theorem sp_bodies {d : Nat} {M : Mem} {ks : List Nat} (h : RK M ks) : Call (d + 1) 0 [.ref 7] M (RV (some (.int (nI ks.length))) M) := by
  refine call_run 400 rfl rfl (fun B Cl Z hZ hB hC => ?_)
  conv => whnf
  exact hZ _ _ ⟨v_eq h.1, rfl⟩
theorem sp_ranN {d : Nat} {M : Mem} {tr : List Nat} (h : RT M tr) : Call (d + 1) 1 [.ref 7] M (RV (some (.int (nI tr.length))) M) := by
  refine call_run 400 rfl rfl (fun B Cl Z hZ hB hC => ?_)
  conv => whnf
  exact hZ _ _ ⟨v_eq h.1, rfl⟩
/-- one kind up, and up to a kind -/
def upK (t : Int32) : Int32 := if 0 ≤ t.toInt ∧ t.toInt < 8 then (stc 902).getD t.toNatClampNeg 0 else cI (-1)
def upN (k : Int32) : Nat → Int32 → Int32
  | 0, t => t
  | n + 1, t => if t = k then t else upN k n (upK t)
def actF (ks : List Nat) (body which x : Int32) : AR :=
  if 0 ≤ body.toInt ∧ body.toInt < (ks.length : Int) then
    (if which.toInt = 0 then lys (ks.getD body.toInt.toNat 0) x body.toInt.toNat else if which.toInt = 1 then lns (ks.getD body.toInt.toNat 0) x body.toInt.toNat (ks.getD body.toInt.toNat 0)
      else if which.toInt = 2 then cts (ks.getD body.toInt.toNat 0) x body.toInt.toNat (ks.getD body.toInt.toNat 0) else if which.toInt = 3 then tls (ks.getD body.toInt.toNat 0) x body.toInt.toNat (ks.getD body.toInt.toNat 0) else (cI 0, []))
  else (cI 0, [])
theorem tls_l (k : Nat) (x : Int32) (b own : Nat) : (tls k x b own).2.length ≤ 19 := by
  have h1 := lns_l own x b own
  have h2 := cts_l own (cI 1) b own
  have h3 : (tls0 x b own).2.length ≤ 18 := by unfold tls0; simp; omega
  unfold tls
  (repeat' split)
  · simp; omega
  · simp; omega
  · omega
theorem RK_fr {M M' : Mem} {ks : List Nat} (h : RK M ks) (h1 : M'.1 7 1 = M.1 7 1) (h2 : M'.1 42 = M.1 42) : RK M' ks := ⟨by rw [h1]; exact h.1, h.2.1, fun i k q => by rw [h2]; exact h.2.2 i k q⟩