/-! the text of names, looked through -/
theorem sp_coder {d : Nat} {M : Mem} : Call (d + 1) 116 [.ref 910] M (RV (some (.int (cI 0))) M) := by
  refine call_run 400 rfl rfl (fun B Cl Z hZ hB hC => ?_)
  (conv => whnf); refine ⟨fun a => ?_, fun a => ?_⟩
  · exact absurd (show (1 : Int32) = 0 from a) (by decide)
  · (conv => whnf)
    refine ⟨rfl, ?_⟩
    conv => whnf
    exact hZ _ _ ⟨rfl, rfl⟩
theorem sp_isLatin1 {d : Nat} {M : Mem} : Call (d + 1) 117 [.ref 910] M (RV (some (.int (cI 1))) M) := by
  refine call_run 400 rfl rfl (fun B Cl Z hZ hB hC => ?_)
  (conv => whnf); refine ⟨fun a => ?_, fun a => ?_⟩
  · exact absurd (show (1 : Int32) = 0 from a) (by decide)
  · (conv => whnf); refine ⟨fun b => ?_, fun b => ?_⟩
    · exact absurd rfl b
    · (conv => whnf)
      refine ⟨Or.inr rfl, ?_⟩
      conv => whnf
      exact hZ _ _ ⟨rfl, rfl⟩
theorem sp_tlen {d : Nat} {M : Mem} : Call (d + 2) 113 [.ref 910] M (RV (some (.int (nI 6))) M) := by
  refine call_run 400 rfl rfl (fun B Cl Z hZ hB hC => ?_)
  (conv => whnf); refine ret_k hC (sp_coder) ?_
  conv => whnf
  exact hZ _ _ ⟨v_eq (by decide), rfl⟩
theorem sp_canEncode {d n : Nat} {M : Mem} (h : n < 128) : Call (d + 1) 118 [.int (nI n)] M (RV (some (.int (cI 1))) M) := by
  have e := nI_v (n := n) (by omega)
  refine call_run 400 rfl rfl (fun B Cl Z hZ hB hC => ?_)
  (conv => whnf); refine ⟨fun a => ?_, fun a => ?_⟩
  · simp only [c_lt, c_gt, c_le, c_ge, c_eq, c_ne, b2_z, b2_nz, b2_i, Classical.not_not, t0, t1, Nat.reduceMod, Nat.reduceDiv, Int.reduceAdd, Int.reduceNeg, Nat.reduceAdd, kv_0, kv_1, kv_255, kc_0, kc_1, kc_255, e] at a
    omega
  · (conv => whnf); refine ⟨fun b => ?_, fun b => ?_⟩
    · simp only [c_lt, c_gt, c_le, c_ge, c_eq, c_ne, b2_z, b2_nz, b2_i, Classical.not_not, t0, t1, Nat.reduceMod, Nat.reduceDiv, Int.reduceAdd, Int.reduceNeg, Nat.reduceAdd, kv_0, kv_1, kv_255, kc_0, kc_1, kc_255, e] at b
      omega
    · (conv => whnf)
      refine ⟨Or.inr rfl, ?_⟩
      conv => whnf
      exact hZ _ _ ⟨rfl, rfl⟩
theorem nI_b {n : Nat} (h : n < 128) : (nI n).toInt8.toInt32 = nI n := by
  apply Int32.toInt_inj.mp
  rw [Int8.toInt_toInt32, Int32.toInt_toInt8, nI_v (by omega)]
  exact Int.bmod_eq_of_le (by omega) (by omega)
/-- which of the names a byte is: from the i-th on -/
def fnd (n : Nat) : Nat → Nat → Int
  | 0, _ => -1
  | k + 1, i => if ([102, 97, 108, 109, 99, 107] : List Nat).getD i 0 = n then (i : Int) else fnd n k (i + 1)
theorem stc_nm {i : Nat} (h : i < 6) : (stc 911).getD i 0 = nI (([102, 97, 108, 109, 99, 107] : List Nat).getD i 0) := by
  match i, h with
  | 0, _ => rfl
  | 1, _ => rfl
  | 2, _ => rfl
  | 3, _ => rfl
  | 4, _ => rfl
  | 5, _ => rfl
theorem nmL_lt {i : Nat} : ([102, 97, 108, 109, 99, 107] : List Nat).getD i 0 < 128 := by
  match i with
  | 0 => decide
  | 1 => decide
  | 2 => decide
  | 3 => decide
  | 4 => decide
  | 5 => decide
  | _ + 6 => simp
theorem find_loop {d n : Nat} {M : Mem} (hn : n < 128) : ∀ (k i : Nat), i + k = 6 → BodyK (d + 1) 120 7 [(0, .ref 911), (3, .int (nI 6)), (4, .int (nI n)), (5, .int (nI i))] [] M (RV (some (.int (cI (fnd n k i)))) M) := by
  intro k
  induction k with
  | zero =>
    intro i hi
    have e := nI_v (n := i) (by omega)
    refine body_run 400 rfl (fun B Cl Z hZ hB hC => ?_)
    (conv => whnf); refine ⟨fun a => ?_, fun a => ?_⟩
    · conv => whnf
      exact hZ _ _ ⟨rfl, rfl⟩
    · simp only [c_lt, c_gt, c_le, c_ge, c_eq, c_ne, b2_z, b2_nz, b2_i, Classical.not_not, t0, t1, Nat.reduceMod, Nat.reduceDiv, Int.reduceAdd, Int.reduceNeg, Nat.reduceAdd, kv_m1, kv_1, kc_1, e] at a
      replace a : ¬ (6 : Int) ≤ (i : Int) := a
      omega
  | succ k ih =>
    intro i hi
    have e := nI_v (n := i) (by omega)
    have en := nI_v (n := n) (by omega)
    have hl := nmL_lt (i := i)
    refine body_run 400 rfl (fun B Cl Z hZ hB hC => ?_)
    (conv => whnf); refine ⟨fun a => ?_, fun a => ?_⟩
    · simp only [c_lt, c_gt, c_le, c_ge, c_eq, c_ne, b2_z, b2_nz, b2_i, Classical.not_not, t0, t1, Nat.reduceMod, Nat.reduceDiv, Int.reduceAdd, Int.reduceNeg, Nat.reduceAdd, kv_m1, kv_1, kc_1, e] at a
      replace a : (6 : Int) ≤ (i : Int) := a
      omega
    · (conv => whnf)
      refine ⟨nI_vp (by omega) (by omega), ?_⟩
      (conv => whnf); refine ⟨fun b => ?_, fun b => ?_⟩
      · rw [nI_c (by omega), c_ne, stc_nm (by omega), nI_v (by omega), en] at b
        have hf : fnd n (k + 1) i = fnd n k (i + 1) := if_neg (by omega)
        rw [hf] at hB
        (conv => whnf)
        exact hB _ _ _ _ (Body_lv (ih (i + 1) (by omega)) ⟨rfl, rfl, rfl, v_eq (nI_i1 i), trivial⟩)
      · rw [nI_c (by omega), c_ne, stc_nm (by omega), nI_v (by omega), en] at b
        have hf : fnd n (k + 1) i = (i : Int) := if_pos (by omega)
        conv => whnf
        refine hZ _ _ ⟨v_eq ?_, rfl⟩
        rw [hf]
        rfl
theorem sp_indexOfChar {d n : Nat} {M : Mem} (hn : n < 128) : Call (d + 1) 120 [.ref 911, .int (nI n), .int (nI 0), .int (nI 6)] M (RV (some (.int (cI (fnd n 6 0)))) M) := by
  refine call_run 400 rfl rfl (fun B Cl Z hZ hB hC => ?_)
  conv => whnf
  exact hB _ _ _ _ (Body_lv (find_loop hn 6 0 rfl) ⟨rfl, rfl, v_eq (nI_b hn), rfl, trivial⟩)
theorem sp_indexOf4 {d n : Nat} {M : Mem} (hn : n < 128) : Call (d + 2) 119 [.ref 911, .int (nI n), .int (nI 0), .int (nI 6)] M (RV (some (.int (cI (fnd n 6 0)))) M) := by
  refine call_run 400 rfl rfl (fun B Cl Z hZ hB hC => ?_)
  (conv => whnf); refine ret_k hC (sp_canEncode hn) ?_
  (conv => whnf); refine ⟨fun a => ?_, fun a => ?_⟩
  · (conv => whnf); refine ⟨fun b => ?_, fun b => ?_⟩
    · (conv => whnf); refine ret_k hC (sp_indexOfChar hn) ?_
      conv => whnf
      exact hZ _ _ ⟨rfl, rfl⟩
    · exact absurd (show (if nI 0 < cI 0 then cI 0 else nI 0) < (if nI 6 < nI 6 then nI 6 else nI 6) by decide) b
  · exact absurd (show ¬ (1 : Int32) = 0 by decide) a
theorem sp_indexOf2 {d n : Nat} {M : Mem} (hn : n < 128) : Call (d + 3) 115 [.ref 910, .int (nI n), .int (nI 0)] M (RV (some (.int (cI (fnd n 6 0)))) M) := by
  refine call_run 400 rfl rfl (fun B Cl Z hZ hB hC => ?_)
  (conv => whnf); refine ret_k hC (sp_isLatin1) ?_
  (conv => whnf); refine ⟨fun a => ?_, fun a => ?_⟩
  · exact absurd (show (1 : Int32) = 0 from a) (by decide)
  · (conv => whnf); refine ret_k hC (sp_tlen) ?_
    (conv => whnf); refine ret_k hC (sp_indexOf4 hn) ?_
    conv => whnf
    exact hZ _ _ ⟨rfl, rfl⟩
theorem sp_indexOf {d n : Nat} {M : Mem} (hn : n < 128) : Call (d + 4) 114 [.ref 910, .int (nI n)] M (RV (some (.int (cI (fnd n 6 0)))) M) := by
  refine call_run 400 rfl rfl (fun B Cl Z hZ hB hC => ?_)
  (conv => whnf); refine ret_k hC (sp_indexOf2 hn) ?_
  conv => whnf
  exact hZ _ _ ⟨rfl, rfl⟩
