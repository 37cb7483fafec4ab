/-! the class's law: what a layer keeps -/
def two (s : Nat) (a b : Int32) : Int32 :=
  if s = 43 then a + b else if s = 45 then a - b else if s = 42 then a * b else if s = 47 then (if b.toInt = 0 then 0 else a / b) else if s = 37 then (if b.toInt = 0 then 0 else a - a / b * b)
  else if s = 60 then b2 (a.toInt < b.toInt) else if s = 61 then b2 (a.toInt = b.toInt) else if s = 62 then b2 (b.toInt < a.toInt) else if s = 38 then b2 (¬ a.toInt = 0 ∧ ¬ b.toInt = 0) else b2 (¬ a.toInt = 0 ∨ ¬ b.toInt = 0)
/-- a law's code on a stack; passing: to the end of a line -/
def wk (fc : Nat → Int32) : List Nat → List Int32 → Bool → Int32
  | [], _, _ => 0
  | c :: l, st, true => wk fc l st (!decide (c = 10069))
  | c :: l, st, false =>
    if c < 10000 then wk fc l (nI c :: st) false else if c < 10010 then wk fc l (fc (c - 10000) :: st) false
    else if c = 10069 then st.headD 0 else if c = 10073 then wk fc l st.tail (decide (st.headD 0 = 0))
    else if c = 10136 then wk fc l (-(st.headD 0) :: st.tail) false else if c = 10043 then wk fc l (b2 (st.headD 0 = 0) :: st.tail) false
    else wk fc l (two (c - 10010) (st.tail.headD 0) (st.headD 0) :: st.tail.tail) false
/-- the stack's room is enough -/
def sfc : List Nat → Nat → Bool → Bool
  | [], _, _ => true
  | c :: l, n, true => sfc l n (!decide (c = 10069))
  | c :: l, n, false =>
    if c < 10010 then decide (n < 64) && (decide (c < 10006) && sfc l (n + 1) false) else if c = 10069 then decide (1 ≤ n)
    else if c = 10073 then decide (1 ≤ n) && (sfc l (n - 1) true && sfc l (n - 1) false)
    else if c = 10136 ∨ c = 10043 then decide (1 ≤ n) && sfc l n false
    else decide (2 ≤ n) && (decide (c < 10140) && sfc l (n - 1) false)
theorem sp_named {d : Nat} {M : Mem} {i : Nat} (h : i < 6) : Call (d + 1) 12 [.ref 1, .int (nI i)] M (RV (some (.int (M.1 38 i))) M) := by
  have e := nI_v (n := i) (by omega)
  refine call_run 400 rfl rfl (fun B Cl Z hZ hB hC => ?_)
  (conv => whnf); refine ⟨fun a => ?_, fun a => ?_⟩
  · simp only [c_lt, c_gt, c_le, c_ge, c_eq, c_ne, b2_z, b2_nz, b2_i, Classical.not_not, t0, t1, Nat.reduceMod, Nat.reduceDiv, Int.reduceAdd, Int.reduceNeg, Nat.reduceAdd, kv_0, kc_0, e] at a
    omega
  · (conv => whnf); refine ⟨fun b => ?_, fun b => ?_⟩
    · simp only [c_lt, c_gt, c_le, c_ge, c_eq, c_ne, b2_z, b2_nz, b2_i, Classical.not_not, t0, t1, Nat.reduceMod, Nat.reduceDiv, Int.reduceAdd, Int.reduceNeg, Nat.reduceAdd, kv_0, kc_0, e] at b
      replace b : (6 : Int) ≤ i := b
      omega
    · (conv => whnf)
      refine ⟨nI_vp h (by omega), ?_⟩
      (conv => whnf)
      refine hZ _ _ ⟨congrArg (fun z => some (Value.int z)) ?_, rfl⟩
      rw [nI_c (by omega)]
theorem sp_push {d : Nat} {M : Mem} {i : Nat} {v : Int32} (h : i < 64) : Call (d + 1) 13 [.ref 1, .int (nI i), .int v] M (RV (some (.int (nI (i + 1)))) (mI M 37 i v)) := by
  have e := nI_v (n := i) (by omega)
  refine call_run 400 rfl rfl (fun B Cl Z hZ hB hC => ?_)
  (conv => whnf); refine ⟨fun a => ?_, fun a => ?_⟩
  · simp only [c_lt, c_gt, c_le, c_ge, c_eq, c_ne, b2_z, b2_nz, b2_i, Classical.not_not, t0, t1, Nat.reduceMod, Nat.reduceDiv, Int.reduceAdd, Int.reduceNeg, Nat.reduceAdd, kv_1, kc_1, e] at a
    omega
  · (conv => whnf); refine ⟨fun b => ?_, fun b => ?_⟩
    · simp only [c_lt, c_gt, c_le, c_ge, c_eq, c_ne, b2_z, b2_nz, b2_i, Classical.not_not, t0, t1, Nat.reduceMod, Nat.reduceDiv, Int.reduceAdd, Int.reduceNeg, Nat.reduceAdd, kv_1, kc_1, e] at b
      replace b : (64 : Int) ≤ i := b
      omega
    · (conv => whnf)
      refine ⟨nI_vp h (by omega), ?_⟩
      (conv => whnf)
      refine hZ _ _ ⟨congrArg (fun z => some (Value.int z)) (nI_1 i), ?_⟩
      rw [nI_c (by omega)]
theorem sp_under {d : Nat} {M : Mem} {i j : Nat} (h : i ≤ 64) (hj : 1 ≤ j) (hij : j ≤ i) : Call (d + 1) 14 [.ref 1, .int (nI i), .int (nI j)] M (RV (some (.int (M.1 37 (i - j)))) M) := by
  have e : nI i - nI j = nI (i - j) := nI_sub hij
  have e2 := nI_v (n := i - j) (by omega)
  refine call_run 400 rfl rfl (fun B Cl Z hZ hB hC => ?_)
  (conv => whnf); refine ⟨fun a => ?_, fun a => ?_⟩
  · simp only [c_lt, c_gt, c_le, c_ge, c_eq, c_ne, b2_z, b2_nz, b2_i, Classical.not_not, t0, t1, Nat.reduceMod, Nat.reduceDiv, Int.reduceAdd, Int.reduceNeg, Nat.reduceAdd, kv_0, kc_0, e, e2] at a
    omega
  · (conv => whnf); refine ⟨fun b => ?_, fun b => ?_⟩
    · simp only [c_lt, c_gt, c_le, c_ge, c_eq, c_ne, b2_z, b2_nz, b2_i, Classical.not_not, t0, t1, Nat.reduceMod, Nat.reduceDiv, Int.reduceAdd, Int.reduceNeg, Nat.reduceAdd, kv_0, kc_0, e, e2] at b
      replace b : (64 : Int) ≤ ((i - j : Nat) : Int) := b
      omega
    · (conv => whnf)
      rw [e]
      refine ⟨nI_vp (by omega) (by omega), ?_⟩
      (conv => whnf)
      refine hZ _ _ ⟨congrArg (fun z => some (Value.int z)) ?_, rfl⟩
      rw [nI_c (by omega)]
theorem sp_door {d : Nat} {M : Mem} {i : Nat} (h : i < 8) : Call (d + 1) 5 [.ref 1, .int (nI i)] M (RV (some (.int (M.1 35 i))) M) := by
  have e := nI_v (n := i) (by omega)
  refine call_run 400 rfl rfl (fun B Cl Z hZ hB hC => ?_)
  (conv => whnf); refine ⟨fun a => ?_, fun a => ?_⟩
  · simp only [c_lt, c_gt, c_le, c_ge, c_eq, c_ne, b2_z, b2_nz, b2_i, Classical.not_not, t0, t1, Nat.reduceMod, Nat.reduceDiv, Int.reduceAdd, Int.reduceNeg, Nat.reduceAdd, kv_0, kc_0, e] at a
    omega
  · (conv => whnf); refine ⟨fun b => ?_, fun b => ?_⟩
    · simp only [c_lt, c_gt, c_le, c_ge, c_eq, c_ne, b2_z, b2_nz, b2_i, Classical.not_not, t0, t1, Nat.reduceMod, Nat.reduceDiv, Int.reduceAdd, Int.reduceNeg, Nat.reduceAdd, kv_0, kc_0, e] at b
      replace b : (8 : Int) ≤ i := b
      omega
    · (conv => whnf)
      refine ⟨nI_vp h (by omega), ?_⟩
      (conv => whnf)
      refine hZ _ _ ⟨congrArg (fun z => some (Value.int z)) ?_, rfl⟩
      rw [nI_c (by omega)]
theorem sp_setDoor {d : Nat} {M : Mem} {i : Nat} {v : Int32} (h : i < 8) : Call (d + 1) 6 [.ref 1, .int (nI i), .int v] M (RV none (mI M 35 i v)) := by
  have e := nI_v (n := i) (by omega)
  refine call_run 400 rfl rfl (fun B Cl Z hZ hB hC => ?_)
  (conv => whnf); refine ⟨fun a => ?_, fun a => ?_⟩
  · simp only [c_lt, c_gt, c_le, c_ge, c_eq, c_ne, b2_z, b2_nz, b2_i, Classical.not_not, t0, t1, Nat.reduceMod, Nat.reduceDiv, Int.reduceAdd, Int.reduceNeg, Nat.reduceAdd, e] at a
    omega
  · (conv => whnf); refine ⟨fun b => ?_, fun b => ?_⟩
    · simp only [c_lt, c_gt, c_le, c_ge, c_eq, c_ne, b2_z, b2_nz, b2_i, Classical.not_not, t0, t1, Nat.reduceMod, Nat.reduceDiv, Int.reduceAdd, Int.reduceNeg, Nat.reduceAdd, e] at b
      replace b : (8 : Int) ≤ i := b
      omega
    · (conv => whnf)
      refine ⟨nI_vp h (by omega), ?_⟩
      (conv => whnf)
      refine hZ _ _ ⟨rfl, ?_⟩
      rw [nI_c (by omega)]
theorem sp_holds {d : Nat} {M : Mem} {s : Nat} {x y : Int32} (hs : isLn s) (h : RLn M s x y) : Call (d + 2) 7 [.ref 1, .ref s] M (RV (some (.int (b2 (maxI (absI x) (absI y) ≤ M.1 1 1)))) M) := by
  rcases id hs with rfl | rfl | rfl <;>
  · refine call_run 400 rfl rfl (fun B Cl Z hZ hB hC => ?_)
    (conv => whnf); refine ret_k hC (sp_greater hs h) ?_
    (conv => whnf); refine ⟨fun a => ?_, fun a => ?_⟩
    · simp only [c_lt, c_gt, c_le, c_ge, c_eq, c_ne, b2_z, b2_nz, b2_i, Classical.not_not, t0, t1, Nat.reduceMod, Nat.reduceDiv, Int.reduceAdd, Int.reduceNeg, Nat.reduceAdd, kv_0, kv_1, kc_0, kc_1] at a
      (conv => whnf)
      refine ⟨Or.inl rfl, ?_⟩
      (conv => whnf)
      refine hZ _ _ ⟨congrArg (fun z => some (Value.int z)) (b2_0 ?_), rfl⟩
      rw [Int32.le_iff_toInt_le]
      omega
    · simp only [c_lt, c_gt, c_le, c_ge, c_eq, c_ne, b2_z, b2_nz, b2_i, Classical.not_not, t0, t1, Nat.reduceMod, Nat.reduceDiv, Int.reduceAdd, Int.reduceNeg, Nat.reduceAdd, kv_0, kv_1, kc_0, kc_1] at a
      (conv => whnf)
      refine ⟨Or.inr rfl, ?_⟩
      (conv => whnf)
      refine hZ _ _ ⟨congrArg (fun z => some (Value.int z)) (b2_1 ?_), rfl⟩
      rw [Int32.le_iff_toInt_le]
      omega
set_option maxHeartbeats 4000000 in
theorem sp_joined {d : Nat} {M : Mem} {s : Nat} {a b : Int32} (h : s < 130) : Call (d + 1) 15 [.int (nI s), .int a, .int b] M (RV (some (.int (two s a b))) M) := by
  have e := nI_v (n := s) (by omega)
  refine call_run 400 rfl rfl (fun B Cl Z hZ hB hC => ?_)
  repeat' (first | ((conv => whnf); refine ⟨fun _ => ?_, fun _ => ?_⟩) | ((conv => whnf); refine ⟨?_, ?_⟩) | fail)
  all_goals (try simp only [c_lt, c_gt, c_le, c_ge, c_eq, c_ne, b2_z, b2_nz, b2_i, Classical.not_not, t0, t1, Nat.reduceMod, Nat.reduceDiv, Int.reduceAdd, Int.reduceNeg, Nat.reduceAdd, kv_0, kv_1, kv_37, kv_38, kv_39, kv_40, kv_41, kv_42, kv_43, kv_44, kv_45, kv_46, kv_47, kv_48, kv_49, kv_50, kv_51, kv_52, kv_53, kv_54, kv_55, kv_56, kv_57, kv_58, kv_59, kv_60, kv_61, kv_62, kc_0, kc_1, kc_37, kc_38, kc_39, kc_40, kc_41, kc_42, kc_43, kc_44, kc_45, kc_46, kc_47, kc_48, kc_49, kc_50, kc_51, kc_52, kc_53, kc_54, kc_55, kc_56, kc_57, kc_58, kc_59, kc_60, kc_61, kc_62, e, x_eq] at *)
  all_goals first
    | omega
    | (refine hZ _ _ ⟨congrArg (fun z => some (Value.int z)) ?_, rfl⟩
       unfold two
       repeat' first | rw [if_pos (by omega)] | rw [if_neg (by omega)] | fail
       all_goals (first | rfl | exact b2_0 (by omega) | exact b2_1 (by omega)))
