/-! the yards of the class: what lies on the ricks -/
/-- a layer: way, force, mark, age -/
abbrev Lyr : Type := Nat × Nat × Nat × Nat
abbrev Rk : Type := List (List Lyr)
def hgt (rk : Rk) (r : Nat) : Nat := (rk.getD r []).length
def lyF (q : Lyr) (j : Nat) : Nat := match j with
  | 0 => q.1
  | 1 => q.2.1
  | 2 => q.2.2.1
  | _ => q.2.2.2
def okL (q : Lyr) : Prop := q.1 < 8 ∧ (1 ≤ q.2.1 ∧ q.2.1 ≤ 9) ∧ q.2.2.1 < 8 ∧ q.2.2.2 < 100
/-- rick r's layers lie in the cells of yard y -/
def RY (M : Mem) (y : Nat) (rk : Rk) : Prop := M.1 y 0 = nI rk.length ∧ rk.length ≤ 4 ∧ (∀ r, r < 4 → M.1 (y + 3) r = nI (hgt rk r)) ∧ (∀ r, hgt rk r ≤ 12) ∧
  ∀ r l q, (rk.getD r [])[l]? = some q → okL q ∧ ∀ j, j < 4 → M.1 (y + 1) ((12 * r + l) * 4 + j) = nI (lyF q j)
def isYd (y : Nat) : Prop := y = 10 ∨ y = 14 ∨ y = 18
theorem hgt_ge {rk : Rk} {r : Nat} (h : rk.length ≤ r) : hgt rk r = 0 := by
  simp [hgt, List.getD, List.getElem?_eq_none h]
theorem ly_lt {rk : Rk} {r l : Nat} {q : Lyr} (h : (rk.getD r [])[l]? = some q) : l < hgt rk r := (List.getElem?_eq_some_iff.mp h).1
theorem ly_at {rk : Rk} {r l : Nat} (h : l < hgt rk r) : ∃ q, (rk.getD r [])[l]? = some q := ⟨_, List.getElem?_eq_getElem h⟩
theorem hgt_lt {rk : Rk} {r l : Nat} (h : l < hgt rk r) : r < rk.length := by
  rcases Nat.lt_or_ge r rk.length with q | q
  · exact q
  · rw [hgt_ge q] at h; omega
/-- the heights alone -/
def RH (M : Mem) (y : Nat) (rk : Rk) : Prop := M.1 y 0 = nI rk.length ∧ rk.length ≤ 4 ∧ (∀ r, r < 4 → M.1 (y + 3) r = nI (hgt rk r)) ∧ ∀ r, hgt rk r ≤ 12
theorem RY.H {M : Mem} {y : Nat} {rk : Rk} (h : RY M y rk) : RH M y rk := ⟨h.1, h.2.1, h.2.2.1, h.2.2.2.1⟩
theorem sp_hasRickH {d : Nat} {M : Mem} {y : Nat} {rk : Rk} {x : Int32} (hy : isYd y) (h : RH M y rk) : Call (d + 1) 65 [.ref y, .int x] M (RV (some (.int (b2 (0 ≤ x.toInt ∧ x.toInt < (rk.length : Int))))) M) := by
  obtain ⟨h1, h2, -⟩ := h
  have e : (nI rk.length).toInt = (rk.length : Int) := nI_v (by omega)
  rcases hy with rfl | rfl | rfl <;>
  · refine call_run 400 rfl rfl (fun B Cl Z hZ hB hC => ?_)
    repeat' (first | ((conv => whnf); refine ⟨fun _ => ?_, fun _ => ?_⟩) | ((conv => whnf); refine ⟨?_, ?_⟩) | fail)
    all_goals (try simp only [c_lt, c_gt, c_le, c_ge, c_eq, c_ne, b2_z, b2_nz, b2_i, Classical.not_not, t0, t1, Nat.reduceMod, Nat.reduceDiv, Int.reduceAdd, Int.reduceNeg, Nat.reduceAdd, kv_0, kv_1, kv_4, kc_0, kc_1, kc_4, h1, e] at *)
    all_goals first
      | exact Or.inl rfl
      | exact Or.inr rfl
      | exact hZ _ _ ⟨congrArg (fun z => some (Value.int z)) (b2_0 (by omega)), rfl⟩
      | exact hZ _ _ ⟨congrArg (fun z => some (Value.int z)) (b2_1 (by omega)), rfl⟩
theorem sp_heightH {d : Nat} {M : Mem} {y : Nat} {rk : Rk} {r : Nat} (hy : isYd y) (h : RH M y rk) (hr : r < 4) : Call (d + 2) 66 [.ref y, .int (nI r)] M (RV (some (.int (nI (hgt rk r)))) M) := by
  obtain ⟨h1, h2, h3, h4⟩ := id h
  have e := nI_v (n := r) (by omega)
  rcases id hy with rfl | rfl | rfl <;>
  · refine call_run 400 rfl rfl (fun B Cl Z hZ hB hC => ?_)
    (conv => whnf); refine ret_k hC (sp_hasRickH hy h) ?_
    (conv => whnf); refine ⟨fun a => ?_, fun a => ?_⟩
    · simp only [c_lt, c_gt, c_le, c_ge, c_eq, c_ne, b2_z, b2_nz, b2_i, Classical.not_not, t0, t1, Nat.reduceMod, Nat.reduceDiv, Int.reduceAdd, Int.reduceNeg, Nat.reduceAdd, kv_0, kc_0, h1, e] at a
      conv => whnf
      refine hZ _ _ ⟨congrArg (fun z => some (Value.int z)) ?_, rfl⟩
      rw [hgt_ge (by omega)]
      rfl
    · simp only [c_lt, c_gt, c_le, c_ge, c_eq, c_ne, b2_z, b2_nz, b2_i, Classical.not_not, t0, t1, Nat.reduceMod, Nat.reduceDiv, Int.reduceAdd, Int.reduceNeg, Nat.reduceAdd, kv_0, kc_0, h1, e] at a
      conv => whnf
      refine ⟨nI_vp hr (by omega), ?_⟩
      conv => whnf
      refine hZ _ _ ⟨congrArg (fun z => some (Value.int z)) ?_, rfl⟩
      rw [nI_c (by omega)]
      exact h3 r hr
theorem sp_hasRick {d : Nat} {M : Mem} {y : Nat} {rk : Rk} {x : Int32} (hy : isYd y) (h : RY M y rk) : Call (d + 1) 65 [.ref y, .int x] M (RV (some (.int (b2 (0 ≤ x.toInt ∧ x.toInt < (rk.length : Int))))) M) := sp_hasRickH hy h.H
theorem sp_height {d : Nat} {M : Mem} {y : Nat} {rk : Rk} {r : Nat} (hy : isYd y) (h : RY M y rk) (hr : r < 4) : Call (d + 2) 66 [.ref y, .int (nI r)] M (RV (some (.int (nI (hgt rk r)))) M) := sp_heightH hy h.H hr
