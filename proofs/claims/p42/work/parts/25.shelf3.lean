/-! copying from shelf to shelf; the shelf at a place -/
theorem lay_sh {a : Nat} (ha : isSh a) : layK a = (0, 6, [0, 0, 0, 0, a + 2]) := by
  rcases ha with rfl | rfl | rfl | rfl | rfl | rfl <;> rfl
def cpk (l f : List Int64) (i j n k : Nat) : List Int64 := l.mapIdx fun x v => if (i < j ∧ j + n - k ≤ x ∧ x < j + n) ∨ (j ≤ i ∧ j ≤ x ∧ x < j + k) then f.getD (i + (x - j)) 0 else v
theorem cpk_at {l f : List Int64} {i j n k x : Nat} : (cpk l f i j n k)[x]? = (l[x]?).map fun v => if (i < j ∧ j + n - k ≤ x ∧ x < j + n) ∨ (j ≤ i ∧ j ≤ x ∧ x < j + k) then f.getD (i + (x - j)) 0 else v := by
  simp [cpk, List.getElem?_mapIdx]
theorem cpk_len {l f : List Int64} {i j n k : Nat} : (cpk l f i j n k).length = l.length := by simp [cpk]
theorem cpk_0 {l f : List Int64} {i j n : Nat} : cpk l f i j n 0 = l := by
  apply List.ext_getElem?
  intro x
  rw [cpk_at]
  cases l[x]? with
  | none => rfl
  | some v =>
    simp only [Option.map_some]
    rw [if_neg (by omega)]
theorem cpk_n {l f : List Int64} {i j n : Nat} : cpk l f i j n n = cpd l f i j n := by
  apply List.ext_getElem?
  intro x
  rw [cpk_at]
  simp only [cpd, List.getElem?_mapIdx]
  cases l[x]? with
  | none => rfl
  | some v =>
    simp only [Option.map_some]
    by_cases z : j ≤ x ∧ x < j + n
    · rw [if_pos (by omega), if_pos z]
    · rw [if_neg (by omega), if_neg z]
theorem cpk_set {l f : List Int64} {i j n k o : Nat} {y : Int64} (hk : k < n) (hl : j + n ≤ l.length) (ho : (i < j ∧ o = n - 1 - k) ∨ (j ≤ i ∧ o = k)) (hy : f[i + o]? = some y) : (cpk l f i j n k).set (j + o) y = cpk l f i j n (k + 1) := by
  apply List.ext_getElem?
  intro x
  by_cases z : j + o = x
  · subst z
    rw [List.getElem?_set_self (by rw [cpk_len]; omega), cpk_at, List.getElem?_eq_getElem (show j + o < l.length by omega)]
    simp only [Option.map_some]
    rw [if_pos (by omega), show i + (j + o - j) = i + o by omega, List.getD, hy]
    rfl
  · rw [List.getElem?_set_ne z, cpk_at, cpk_at]
    cases l[x]? with
    | none => rfl
    | some v =>
      simp only [Option.map_some]
      by_cases c : (i < j ∧ j + n - k ≤ x ∧ x < j + n) ∨ (j ≤ i ∧ j ≤ x ∧ x < j + k)
      · rw [if_pos c, if_pos (by omega)]
      · rw [if_neg c, if_neg (by omega)]
theorem cpk_rd {f : List Int64} {i j n k o : Nat} (hk : k < n) (ho : (i < j ∧ o = n - 1 - k) ∨ (j ≤ i ∧ o = k)) : (cpk f f i j n k)[i + o]? = f[i + o]? := by
  rw [cpk_at]
  cases f[i + o]? with
  | none => rfl
  | some v =>
    simp only [Option.map_some]
    rw [if_neg (by omega)]
theorem sh_is {i : Nat} (h : i < 6) : isSh (22 + 2 * i) := by
  unfold isSh; omega
/-- the shelf at a place, or null -/
theorem sp_shelfAt {d : Nat} {M : Mem} {x : Int32} : Call (d + 1) 101 [.ref 0, .int x] M (fun v M' => M' = M ∧ ((¬ (0 ≤ x.toInt ∧ x.toInt < 6) ∧ v = some .null) ∨ ∃ i, i < 6 ∧ x = nI i ∧ v = some (.ref (22 + 2 * i)))) := by
  refine call_run 400 rfl rfl (fun B Cl Z hZ hB hC => ?_)
  (conv => whnf); refine ⟨fun b => ?_, fun b => ?_⟩
  · simp only [c_lt, c_gt, c_le, c_ge, c_eq, c_ne, b2_z, b2_nz, b2_i, Classical.not_not, t0, t1, Nat.reduceMod, Nat.reduceDiv, Int.reduceAdd, Int.reduceNeg, Nat.reduceAdd] at b
    conv => whnf
    exact hZ _ _ ⟨rfl, Or.inl ⟨by omega, rfl⟩⟩
  · simp only [c_lt, c_gt, c_le, c_ge, c_eq, c_ne, b2_z, b2_nz, b2_i, Classical.not_not, t0, t1, Nat.reduceMod, Nat.reduceDiv, Int.reduceAdd, Int.reduceNeg, Nat.reduceAdd] at b
    (conv => whnf); refine ⟨fun c => ?_, fun c => ?_⟩
    · simp only [c_lt, c_gt, c_le, c_ge, c_eq, c_ne, b2_z, b2_nz, b2_i, Classical.not_not, t0, t1, Nat.reduceMod, Nat.reduceDiv, Int.reduceAdd, Int.reduceNeg, Nat.reduceAdd] at c
      replace c : (6 : Int) ≤ x.toInt := c
      conv => whnf
      exact hZ _ _ ⟨rfl, Or.inl ⟨by omega, rfl⟩⟩
    · simp only [c_lt, c_gt, c_le, c_ge, c_eq, c_ne, b2_z, b2_nz, b2_i, Classical.not_not, t0, t1, Nat.reduceMod, Nat.reduceDiv, Int.reduceAdd, Int.reduceNeg, Nat.reduceAdd] at c
      replace c : ¬ (6 : Int) ≤ x.toInt := c
      obtain ⟨i, rfl, e, hi⟩ := to_nI (x := x) (by omega)
      (conv => whnf)
      refine ⟨nI_vp (by omega) (by omega), ?_⟩
      (conv => whnf)
      refine hZ _ _ ⟨rfl, Or.inr ⟨i, by omega, rfl, ?_⟩⟩
      rw [nI_c (by omega)]
